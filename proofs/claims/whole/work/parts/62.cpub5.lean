theorem kW_riM_mk {cI cJ cZ cV cR : ClassId} {a : Nat → Nat} {ra : Nat} {rb : Nat} {vc : Nat} {rc : Nat} {pc : Nat} {nw : Nat} {n : Nat} {fn : Nat} {sn : Nat} {kc : Nat} {grp : Nat → Int64} {key : Nat → Int64} {srt : Nat → Int64} {wt : Nat → Int64} {home : Nat → Int} {drp : Nat → Bool} {met : Nat → Bool} {kin : Nat → Nat} {alv : Nat → Nat} {srs : Nat → Nat} {row : Nat → Nat} {sp : Nat → Nat} {kis : Nat → Nat} {pg : Nat → Nat} {vq : Nat → Option Nat} {rq : Nat → Option Nat} {L : List Nat} {F : Nat → va_E} {q8 v8 hs8 : Nat} {cu8 : Bool} {kp8 : Nat} : kW cI cJ cZ cV cR a (riM (mkC ra rb vc rc pc nw n fn sn kc grp key srt wt home drp met kin alv srs row sp kis pg vq rq L F) q8 v8 hs8 cu8 kp8) = (kX cI cJ cZ cV cR a (ra) (rb) (vc) (rc) (pc) (nw) (n) (fn) (sn) (kc) (grp) (key) (srt) (wt) (home) (drp) (met) (kin) (alv) (srs) (row) (sp) (kis) (pg) (vq) (rq) (L) (va_up (F) (q8) (.inr (1, [.ref (v8), .ref (hs8), .int (bI (cu8)), .int (nI (kp8)), .int (nI (0)), .int (nI (0)), .int (bI (false))])))) := rfl
theorem kW_cwM_mk {cI cJ cZ cV cR : ClassId} {a : Nat → Nat} {ra : Nat} {rb : Nat} {vc : Nat} {rc : Nat} {pc : Nat} {nw : Nat} {n : Nat} {fn : Nat} {sn : Nat} {kc : Nat} {grp : Nat → Int64} {key : Nat → Int64} {srt : Nat → Int64} {wt : Nat → Int64} {home : Nat → Int} {drp : Nat → Bool} {met : Nat → Bool} {kin : Nat → Nat} {alv : Nat → Nat} {srs : Nat → Nat} {row : Nat → Nat} {sp : Nat → Nat} {kis : Nat → Nat} {pg : Nat → Nat} {vq : Nat → Option Nat} {rq : Nat → Option Nat} {L : List Nat} {F : Nat → va_E} {q8 : Nat} : kW cI cJ cZ cV cR a (cwM cI (mkC ra rb vc rc pc nw n fn sn kc grp key srt wt home drp met kin alv srs row sp kis pg vq rq L F) q8) = (kX cI cJ cZ cV cR a (ra) (rb) (vc) (rc) (pc) (nw) (n) (fn) (sn) (kc) (grp) (key) (srt) (wt) (home) (drp) (met) (kin) (alv) (srs) (row) (sp) (kis) (pg) (vq) (rq) (L ++ [q8]) (va_up (F) (q8) (.inl (cI, kc, .inl (fun j => nI (cpR (row) (kc) j)))))) := rfl
theorem kW_orM_mk {cI cJ cZ cV cR : ClassId} {a : Nat → Nat} {ra : Nat} {rb : Nat} {vc : Nat} {rc : Nat} {pc : Nat} {nw : Nat} {n : Nat} {fn : Nat} {sn : Nat} {kc : Nat} {grp : Nat → Int64} {key : Nat → Int64} {srt : Nat → Int64} {wt : Nat → Int64} {home : Nat → Int} {drp : Nat → Bool} {met : Nat → Bool} {kin : Nat → Nat} {alv : Nat → Nat} {srs : Nat → Nat} {row : Nat → Nat} {sp : Nat → Nat} {kis : Nat → Nat} {pg : Nat → Nat} {vq : Nat → Option Nat} {rq : Nat → Option Nat} {L : List Nat} {F : Nat → va_E} {q8 v8 hs8 se8 c8 g8 st8 r8 : Nat} : kW cI cJ cZ cV cR a (orM (mkC ra rb vc rc pc nw n fn sn kc grp key srt wt home drp met kin alv srs row sp kis pg vq rq L F) q8 v8 hs8 se8 c8 g8 st8 r8) = (kX cI cJ cZ cV cR a (ra) (rb) (vc) (rc + 1) (pc) (nw) (n) (fn) (sn) (kc) (grp) (key) (srt) (wt) (home) (drp) (met) (kin) (alv) (srs) (row) (sp) (kis) (pg) (vq) (va_up (rq) (rc) (some (q8))) (L) (va_up (F) (v8) (.inr (4, [.ref (hs8), .ref (se8), .int (nI (c8)), .int (nI (g8)), .int (nI (st8)), .int (nI (r8 + 1))])))) := rfl
theorem kW_riM {cI cJ cZ cV cR : ClassId} {a : Nat → Nat} {C : CT} {q v hs : Nat} {cu : Bool} {kp : Nat} : kW cI cJ cZ cV cR a (riM C q v hs cu kp) = (kX cI cJ cZ cV cR a (k_ra C) (k_rb C) (k_vc C) (k_rc C) (k_pc C) (k_nw C) (k_n C) (k_fn C) (k_sn C) (k_kc C) (k_grp C) (k_key C) (k_srt C) (k_wt C) (k_home C) (k_drp C) (k_met C) (k_kin C) (k_alv C) (k_srs C) (k_row C) (k_sp C) (k_kis C) (k_pg C) (k_vq C) (k_rq C) (k_L C) (va_up (k_F C) (q) (.inr (1, [.ref (v), .ref (hs), .int (bI (cu)), .int (nI (kp)), .int (nI (0)), .int (nI (0)), .int (bI (false))])))) := rfl
theorem kW_cwM {cI cJ cZ cV cR : ClassId} {a : Nat → Nat} {C : CT} {q : Nat} : kW cI cJ cZ cV cR a (cwM cI C q) = (kX cI cJ cZ cV cR a (k_ra C) (k_rb C) (k_vc C) (k_rc C) (k_pc C) (k_nw C) (k_n C) (k_fn C) (k_sn C) (k_kc C) (k_grp C) (k_key C) (k_srt C) (k_wt C) (k_home C) (k_drp C) (k_met C) (k_kin C) (k_alv C) (k_srs C) (k_row C) (k_sp C) (k_kis C) (k_pg C) (k_vq C) (k_rq C) (k_L C ++ [q]) (va_up (k_F C) (q) (.inl (cI, k_kc C, .inl (fun j => nI (cpR (k_row C) (k_kc C) j)))))) := rfl
theorem kW_orM {cI cJ cZ cV cR : ClassId} {a : Nat → Nat} {C : CT} {q v hs se c g st r : Nat} : kW cI cJ cZ cV cR a (orM C q v hs se c g st r) = (kX cI cJ cZ cV cR a (k_ra C) (k_rb C) (k_vc C) (k_rc C + 1) (k_pc C) (k_nw C) (k_n C) (k_fn C) (k_sn C) (k_kc C) (k_grp C) (k_key C) (k_srt C) (k_wt C) (k_home C) (k_drp C) (k_met C) (k_kin C) (k_alv C) (k_srs C) (k_row C) (k_sp C) (k_kis C) (k_pg C) (k_vq C) (va_up (k_rq C) (k_rc C) (some (q))) (k_L C) (va_up (k_F C) (v) (.inr (4, [.ref (hs), .ref (se), .int (nI (c)), .int (nI (g)), .int (nI (st)), .int (nI (r + 1))])))) := rfl
def cuC (cI : ClassId) (B : CT) (q hs se c9 g9 st9 r9 kp9 q1 q2 : Nat) : CT := (mkC (k_ra B) (k_rb B) (k_vc B) (k_rc B + 1) (k_pc B) (k_nw B) (k_n B) (k_fn B) (k_sn B) (k_kc B) (k_grp B) (k_key B) (k_srt B) (k_wt B) (k_home B) (k_drp B) (k_met B) (k_kin B) (k_alv B) (k_srs B) (k_row B) (k_sp B) (k_kis B) (k_pg B) (k_vq B) (va_up (k_rq B) (k_rc B) (some (q1))) (k_L B ++ [q1] ++ [q2]) (va_up (va_up (va_up (va_up (k_F B) (q1) (.inr (1, [.null, .null, .int (bI (false)), .int (nI (0)), .int (nI (0)), .int (nI (0)), .int (bI (false))]))) (q2) (.inl (cI, k_kc B, .inl (fun j => nI ((cpR (k_row B) (k_kc B)) j))))) (q1) (.inr (1, [.ref (q), .ref (q2), .int (bI (true)), .int (nI (kp9)), .int (nI (0)), .int (nI (k_nw B + kp9)), .int (bI (false))]))) (q) (.inr (4, [.ref (hs), .ref (se), .int (nI (c9)), .int (nI (g9)), .int (nI (st9)), .int (nI (r9 + 1))]))))
def rm_X5_cursor : Room := { frames := 4, cells := 2, slots := 307, locals := 98 }
set_option maxHeartbeats 4000000 in
set_option maxRecDepth 100000 in
/-- a cursor is opened -/
theorem c_X5_cursor (l : Launch) (D : va_G) (cI cJ cZ cV cR : ClassId) (a : Nat → Nat) (C : CT) (hM : kOk C) (q hs se c9 g9 st9 r9 n9 : Nat) (f9 : Nat → Nat) (hV : isV (k_L C) (k_F C) q hs se c9 g9 st9 r9) (hI : isI cI (k_L C) (k_F C) hs n9 f9) (hc9 : c9 ≤ n9) (hn9 : n9 ≤ 300) (hg9 : g9 ≤ 300) (hst9 : st9 ≤ 2) (hr9 : r9 ≤ 60) (hf9 : ∀ j, f9 j < 300) (i : Nat) (hi9 : i < k_vc C) (hq9 : k_vq C i = some q) (kd : Nat) (sd : Int64) (m9 k9 kp9 : Nat) (hkd : kd < 3) (hm9 : 1 ≤ m9) (hm8 : m9 ≤ 8) (hk9 : k9 < m9) (hkp9 : 1 ≤ kp9) (hkp8 : kp9 ≤ 1000) (ho9 : st9 = 0) (sz : Nat) : Met l yX5_cursor wsX5_cursor rm_X5_cursor (va_Pc [.ref (a 0), .int (nI (i)), .int (nI (kd)), .long (sd), .int (nI (m9)), .int (nI (k9)), .int (nI (kp9))] (GN D (tyK cI cJ cZ cV cR) (kW cI cJ cZ cV cR a C) sz)) (va_Qi (fun rr u => (60 ≤ k_rc C → rr = zI (-4) ∧ u = C) ∧ (k_rc C < 60 → rr = nI (k_rc C) ∧ ∃ q1 q2 : Nat, q1 ∉ k_L (nsM (rkM C (f9) (c9) (kd) (sd)) (m9) (k9)) ∧ q2 ∉ k_L (nsM (rkM C (f9) (c9) (kd) (sd)) (m9) (k9)) ++ [q1] ∧ u = cuC cI (nsM (rkM C (f9) (c9) (kd) (sd)) (m9) (k9)) q hs se c9 g9 st9 r9 kp9 q1 q2)) (fun u => GB D (tyK cI cJ cZ cV cR) (va_A (kW cI cJ cZ cV cR a C) sz) (kW cI cJ cZ cV cR a u)) (va_A (kW cI cJ cZ cV cR a C) sz)) 2 307 (va_A (kW cI cJ cZ cV cR a C) sz) := by
  obtain ⟨hn, hfn, hsn, hvc, hrc, hpc, hnw, hkc, h_home, h_kin, h_alv, h_srs, h_row, h_sp, h_kis, h_pg⟩ := id hM
  refine Met.ofW (cc := cX5_cursor) (maxL := 10) (ret := (some .int)) (by decide) rfl ?_
  intro p e s m args below meth c s₁ B hml hv
  obtain ⟨rfl, ⟨hsz, hP, hK, hD0⟩, hNw⟩ := hv
  have hx := B.exec
  have hb := B.bytes
  have hr := B.returns
  have hts := atoms_spec (ws := wsX5_cursor) B.pre
  have hown : s.vm.findClass RX5 = some m.cls := findClass_of_methodNamed B.named
  have hlocks := B.notSynchronized
  subst hsz
  have hD := hD0.self (sz := s.heap.size)
  generalize hAe : va_A (kW cI cJ cZ cV cR a C) s.heap.size = A at hD ⊢
  have hA : ∀ q : Nat, s.heap.size ≤ q → A q := fun q h => by rw [← hAe]; exact Or.inr h
  have hS : va_S A s.heap s.heap [] := va_S.rf
  have hP : va_P D vwCl (kX cI cJ cZ cV cR a (k_ra C) (k_rb C) (k_vc C) (k_rc C) (k_pc C) (k_nw C) (k_n C) (k_fn C) (k_sn C) (k_kc C) (k_grp C) (k_key C) (k_srt C) (k_wt C) (k_home C) (k_drp C) (k_met C) (k_kin C) (k_alv C) (k_srs C) (k_row C) (k_sp C) (k_kis C) (k_pg C) (k_vq C) (k_rq C) (k_L C) (k_F C)) s.heap := hP
  have hD : va_D A (kX cI cJ cZ cV cR a (k_ra C) (k_rb C) (k_vc C) (k_rc C) (k_pc C) (k_nw C) (k_n C) (k_fn C) (k_sn C) (k_kc C) (k_grp C) (k_key C) (k_srt C) (k_wt C) (k_home C) (k_drp C) (k_met C) (k_kin C) (k_alv C) (k_srs C) (k_row C) (k_sp C) (k_kis C) (k_pg C) (k_vq C) (k_rq C) (k_L C) (k_F C)) := hD
  have hiX5 : ∀ w ∈ wsX50, w ∈ wsX5_cursor := by decide +kernel
  have hiX1 : ∀ w ∈ wsX10, w ∈ wsX5_cursor := by decide +kernel
  have hf0 := hts (.fieldLink RX5 48 "GroupCursors" "readerCount" "I") (by decide +kernel)
  have hf1 := hts (.fieldLink RX5 28 "GroupCursors" "ranking" "LGroupCursors$Ranking;") (by decide +kernel)
  have hf2 := hts (.classLink RX5 42 RX1) (by decide +kernel)
  have hf3 := hts (.instantiable RX1 7) (by decide +kernel)
  have hf4 := hts (.initialized RX1) (by decide +kernel)
  have hf5 := hts (.methodLink RX5 201 yX1_init) (by decide +kernel)
  have hf6 := hts (.instanceMethod yX1_init) (by decide +kernel)
  have hf7 := hts (.fieldLink RX5 58 "GroupCursors" "now" "I") (by decide +kernel)
  have hf8 := hts (.fieldLink RX5 204 "GroupCursors$Reader" "end" "I") (by decide +kernel)
  have hl := lv_entry ([.ref (a 0), .int (nI (i)), .int (nI (kd)), .long (sd), .int (nI (m9)), .int (nI (k9)), .int (nI (kp9))]) (n := 10) (Nat.le_of_ble_eq_true rfl)
  rw [lg_entry_eq]
  generalize (lg_sl ([.ref (a 0), .int (nI (i)), .int (nI (kd)), .long (sd), .int (nI (m9)), .int (nI (k9)), .int (nI (kp9))]) ++ List.replicate (10 - (lg_sl ([.ref (a 0), .int (nI (i)), .int (nI (kd)), .long (sd), .int (nI (m9)), .int (nI (k9)), .int (nI (kp9))])).length) Slot.unset).toArray = ls at hl ⊢
  have hl : lv_has ls 10 [(0, .ref (a 0)), (1, .int (nI (i))), (2, .int (nI (kd))), (3, .long (sd)), (5, .int (nI (m9))), (6, .int (nI (k9))), (7, .int (nI (kp9)))] := hl
  refine lv_aload_n hx hb dX5_cursor_0 rfl (lv_at hl 0 rfl) ?_
  refine lv_iload_n hx hb dX5_cursor_1 rfl (lv_at hl 1 rfl) ?_
  have hPm : va_P D vwCl (kW cI cJ cZ cV cR a C) s.heap := by exact hP
  have hDm : va_D A (kW cI cJ cZ cV cR a C) := by exact hD
  refine wc_VWr (As := [.int (nI (i))]) (rest := []) (ra := Prod.fst) (wf := fun u => kW cI cJ cZ cV cR a u.2) ⟨hx, hb, hml, hown, hts⟩ (c_X5_viewAt l D cI cJ cZ cV cR a C hM (i) (q) (by omega) hq9 s.heap.size) (cwV 1 hts gX5_cursor_X5_viewAt rfl rfl rfl (by decide +kernel) ⟨Nat.le_of_ble_eq_true rfl, Nat.le_of_ble_eq_true rfl⟩) hPm hK hDm hS hA 0 rfl rfl rfl hl.1 rfl (Nat.le_of_ble_eq_true rfl) dX5_cursor_2 ⟨Nat.le_of_ble_eq_true rfl, Nat.le_of_ble_eq_true rfl⟩ (fun u1 hq1 H locs hP hD hS => ?_)
  have hu1 := hq1
  subst hu1
  have hP : va_P D vwCl (kX cI cJ cZ cV cR a (k_ra C) (k_rb C) (k_vc C) (k_rc C) (k_pc C) (k_nw C) (k_n C) (k_fn C) (k_sn C) (k_kc C) (k_grp C) (k_key C) (k_srt C) (k_wt C) (k_home C) (k_drp C) (k_met C) (k_kin C) (k_alv C) (k_srs C) (k_row C) (k_sp C) (k_kis C) (k_pg C) (k_vq C) (k_rq C) (k_L C) (k_F C)) H := hP
  have hD : va_D A (kX cI cJ cZ cV cR a (k_ra C) (k_rb C) (k_vc C) (k_rc C) (k_pc C) (k_nw C) (k_n C) (k_fn C) (k_sn C) (k_kc C) (k_grp C) (k_key C) (k_srt C) (k_wt C) (k_home C) (k_drp C) (k_met C) (k_kin C) (k_alv C) (k_srs C) (k_row C) (k_sp C) (k_kis C) (k_pg C) (k_vq C) (k_rq C) (k_L C) (k_F C)) := hD
  refine lv_astore (lv' := [(8, .ref (q)), (0, .ref (a 0)), (1, .int (nI (i))), (2, .int (nI (kd))), (3, .long (sd)), (5, .int (nI (m9))), (6, .int (nI (k9))), (7, .int (nI (kp9)))]) hx hb dX5_cursor_5 hl (by decide) rfl (fun ls hl => ?_)
  refine lv_iload_n hx hb dX5_cursor_7 rfl (lv_at hl 3 rfl) ?_
  have hPm : va_P D vwCl (kW cI cJ cZ cV cR a C) H := by exact hP
  have hDm : va_D A (kW cI cJ cZ cV cR a C) := by exact hD
  refine wc_SWv (As := [.int (nI (kd))]) (rest := []) (wf := kW cI cJ cZ cV cR a) ⟨hx, hb, hml, hown, hts⟩ (c_X5_checkKind l D cI cJ cZ cV cR a C hM (kd) (by omega) H.size) (va_cwS 1 hts gX5_cursor_X5_checkKind rfl rfl rfl (by decide +kernel) ⟨Nat.le_of_ble_eq_true rfl, Nat.le_of_ble_eq_true rfl⟩) hPm hK hDm hS hA rfl hl.1 rfl (Nat.le_of_ble_eq_true rfl) dX5_cursor_8 ⟨Nat.le_of_ble_eq_true rfl, Nat.le_of_ble_eq_true rfl⟩ (fun u2 hq2 H locs hP hD hS => ?_)
  have hu2 := hq2.symm
  subst hu2
  have hP : va_P D vwCl (kX cI cJ cZ cV cR a (k_ra C) (k_rb C) (k_vc C) (k_rc C) (k_pc C) (k_nw C) (k_n C) (k_fn C) (k_sn C) (k_kc C) (k_grp C) (k_key C) (k_srt C) (k_wt C) (k_home C) (k_drp C) (k_met C) (k_kin C) (k_alv C) (k_srs C) (k_row C) (k_sp C) (k_kis C) (k_pg C) (k_vq C) (k_rq C) (k_L C) (k_F C)) H := hP
  have hD : va_D A (kX cI cJ cZ cV cR a (k_ra C) (k_rb C) (k_vc C) (k_rc C) (k_pc C) (k_nw C) (k_n C) (k_fn C) (k_sn C) (k_kc C) (k_grp C) (k_key C) (k_srt C) (k_wt C) (k_home C) (k_drp C) (k_met C) (k_kin C) (k_alv C) (k_srs C) (k_row C) (k_sp C) (k_kis C) (k_pg C) (k_vq C) (k_rq C) (k_L C) (k_F C)) := hD
  refine lv_iload hx hb dX5_cursor_11 (lv_at hl 5 rfl) ?_
  refine lv_iload hx hb dX5_cursor_13 (lv_at hl 6 rfl) ?_
  have hPm : va_P D vwCl (kW cI cJ cZ cV cR a C) H := by exact hP
  have hDm : va_D A (kW cI cJ cZ cV cR a C) := by exact hD
  refine wc_SWv (As := [.int (nI (m9)), .int (nI (k9))]) (rest := []) (wf := kW cI cJ cZ cV cR a) ⟨hx, hb, hml, hown, hts⟩ (c_X5_checkSlice l D cI cJ cZ cV cR a C hM (m9) (k9) (by omega) (by omega) (by omega) H.size) (va_cwS 2 hts gX5_cursor_X5_checkSlice rfl rfl rfl (by decide +kernel) ⟨Nat.le_of_ble_eq_true rfl, Nat.le_of_ble_eq_true rfl⟩) hPm hK hDm hS hA rfl hl.1 rfl (Nat.le_of_ble_eq_true rfl) dX5_cursor_15 ⟨Nat.le_of_ble_eq_true rfl, Nat.le_of_ble_eq_true rfl⟩ (fun u3 hq3 H locs hP hD hS => ?_)
  have hu3 := hq3.symm
  subst hu3
  have hP : va_P D vwCl (kX cI cJ cZ cV cR a (k_ra C) (k_rb C) (k_vc C) (k_rc C) (k_pc C) (k_nw C) (k_n C) (k_fn C) (k_sn C) (k_kc C) (k_grp C) (k_key C) (k_srt C) (k_wt C) (k_home C) (k_drp C) (k_met C) (k_kin C) (k_alv C) (k_srs C) (k_row C) (k_sp C) (k_kis C) (k_pg C) (k_vq C) (k_rq C) (k_L C) (k_F C)) H := hP
  have hD : va_D A (kX cI cJ cZ cV cR a (k_ra C) (k_rb C) (k_vc C) (k_rc C) (k_pc C) (k_nw C) (k_n C) (k_fn C) (k_sn C) (k_kc C) (k_grp C) (k_key C) (k_srt C) (k_wt C) (k_home C) (k_drp C) (k_met C) (k_kin C) (k_alv C) (k_srs C) (k_row C) (k_sp C) (k_kis C) (k_pg C) (k_vq C) (k_rq C) (k_L C) (k_F C)) := hD
  refine lv_iload hx hb dX5_cursor_18 (lv_at hl 7 rfl) ?_
  have hPm : va_P D vwCl (kW cI cJ cZ cV cR a C) H := by exact hP
  have hDm : va_D A (kW cI cJ cZ cV cR a C) := by exact hD
  refine wc_SWv (As := [.int (nI (kp9))]) (rest := []) (wf := kW cI cJ cZ cV cR a) ⟨hx, hb, hml, hown, hts⟩ (c_X5_checkKeep l D cI cJ cZ cV cR a C hM (kp9) (by omega) (by omega) H.size) (va_cwS 1 hts gX5_cursor_X5_checkKeep rfl rfl rfl (by decide +kernel) ⟨Nat.le_of_ble_eq_true rfl, Nat.le_of_ble_eq_true rfl⟩) hPm hK hDm hS hA rfl hl.1 rfl (Nat.le_of_ble_eq_true rfl) dX5_cursor_20 ⟨Nat.le_of_ble_eq_true rfl, Nat.le_of_ble_eq_true rfl⟩ (fun u4 hq4 H locs hP hD hS => ?_)
  have hu4 := hq4.symm
  subst hu4
  have hP : va_P D vwCl (kX cI cJ cZ cV cR a (k_ra C) (k_rb C) (k_vc C) (k_rc C) (k_pc C) (k_nw C) (k_n C) (k_fn C) (k_sn C) (k_kc C) (k_grp C) (k_key C) (k_srt C) (k_wt C) (k_home C) (k_drp C) (k_met C) (k_kin C) (k_alv C) (k_srs C) (k_row C) (k_sp C) (k_kis C) (k_pg C) (k_vq C) (k_rq C) (k_L C) (k_F C)) H := hP
  have hD : va_D A (kX cI cJ cZ cV cR a (k_ra C) (k_rb C) (k_vc C) (k_rc C) (k_pc C) (k_nw C) (k_n C) (k_fn C) (k_sn C) (k_kc C) (k_grp C) (k_key C) (k_srt C) (k_wt C) (k_home C) (k_drp C) (k_met C) (k_kin C) (k_alv C) (k_srs C) (k_row C) (k_sp C) (k_kis C) (k_pg C) (k_vq C) (k_rq C) (k_L C) (k_F C)) := hD
  refine lv_aload hx hb dX5_cursor_23 (lv_at hl 0 rfl) ?_
  have hPm : va_P D vwCl (kW cI cJ cZ cV cR a C) H := by exact hP
  have hDm : va_D A (kW cI cJ cZ cV cR a C) := by exact hD
  refine wc_SWv (As := [.ref (q)]) (rest := []) (wf := kW cI cJ cZ cV cR a) ⟨hx, hb, hml, hown, hts⟩ (c_X5_checkOpen l D cI cJ cZ cV cR a C hM (q) (hs) (se) (c9) (g9) (st9) (r9) hV (by omega) (by omega) (by omega) (by omega) ho9 H.size) (va_cwS 1 hts gX5_cursor_X5_checkOpen rfl rfl rfl (by decide +kernel) ⟨Nat.le_of_ble_eq_true rfl, Nat.le_of_ble_eq_true rfl⟩) hPm hK hDm hS hA rfl hl.1 rfl (Nat.le_of_ble_eq_true rfl) dX5_cursor_25 ⟨Nat.le_of_ble_eq_true rfl, Nat.le_of_ble_eq_true rfl⟩ (fun u5 hq5 H locs hP hD hS => ?_)
  have hu5 := hq5.symm
  subst hu5
  have hP : va_P D vwCl (kX cI cJ cZ cV cR a (k_ra C) (k_rb C) (k_vc C) (k_rc C) (k_pc C) (k_nw C) (k_n C) (k_fn C) (k_sn C) (k_kc C) (k_grp C) (k_key C) (k_srt C) (k_wt C) (k_home C) (k_drp C) (k_met C) (k_kin C) (k_alv C) (k_srs C) (k_row C) (k_sp C) (k_kis C) (k_pg C) (k_vq C) (k_rq C) (k_L C) (k_F C)) H := hP
  have hD : va_D A (kX cI cJ cZ cV cR a (k_ra C) (k_rb C) (k_vc C) (k_rc C) (k_pc C) (k_nw C) (k_n C) (k_fn C) (k_sn C) (k_kc C) (k_grp C) (k_key C) (k_srt C) (k_wt C) (k_home C) (k_drp C) (k_met C) (k_kin C) (k_alv C) (k_srs C) (k_row C) (k_sp C) (k_kis C) (k_pg C) (k_vq C) (k_rq C) (k_L C) (k_F C)) := hD
  refine lv_aload_n hx hb dX5_cursor_28 rfl (lv_at hl 1 rfl) ?_
  refine va_get (ci := 5) (v := .int (nI (k_rc C))) (C := RX5) (T := TX5) (N := 10) hx hb hts hiX5 hown hK hP 0 rfl rfl 6 (by decide) hf0 (fun _ h9 => h9) rfl dX5_cursor_29 ?_
  refine lv_bipush (v := nI (60)) hx hb dX5_cursor_32 (by decide) ?_
  refine wn_icmp_lt (a := k_rc C) (b := 60) (tgt := 40) hx hb (nI_z (by omega)) (nI_z (by omega)) dX5_cursor_34 (by decide) (fun c34_6 => ?_) (fun c34_6 => ?_)
  · refine lv_aload_n hx hb dX5_cursor_40 rfl (lv_at hl 1 rfl) ?_
    refine lv_aload hx hb dX5_cursor_41 (lv_at hl 0 rfl) ?_
    refine lv_iload_n hx hb dX5_cursor_43 rfl (lv_at hl 3 rfl) ?_
    refine lv_lload_n hx hb dX5_cursor_44 rfl (lv_at hl 4 rfl) ?_
    have hPm : va_P D vwCl (kW cI cJ cZ cV cR a C) H := by exact hP
    have hDm : va_D A (kW cI cJ cZ cV cR a C) := by exact hD
    refine wc_VWv (As := [.ref (q), .int (nI (kd)), .long (sd)]) (rest := []) (wf := kW cI cJ cZ cV cR a) ⟨hx, hb, hml, hown, hts⟩ (c_X5_rankHits l D cI cJ cZ cV cR a C hM (q) (hs) (se) (c9) (g9) (st9) (r9) (n9) (f9) hV hI (by omega) (by omega) (by omega) (by omega) (by omega) hf9 (kd) (sd) (by omega) H.size) (cwV 3 hts gX5_cursor_X5_rankHits rfl rfl rfl (by decide +kernel) ⟨Nat.le_of_ble_eq_true rfl, Nat.le_of_ble_eq_true rfl⟩) hPm hK hDm hS hA 0 rfl rfl rfl hl.1 rfl (Nat.le_of_ble_eq_true rfl) dX5_cursor_45 ⟨Nat.le_of_ble_eq_true rfl, Nat.le_of_ble_eq_true rfl⟩ (fun u7 hq7 H locs hP hD hS => ?_)
    have hu7 := hq7.symm
    subst hu7
    have hb8_0 : isV (k_L (rkM C (f9) (c9) (kd) (sd))) (k_F (rkM C (f9) (c9) (kd) (sd))) (q) (hs) (se) (c9) (g9) (st9) (r9) := by rw [rkM_L, rkM_F]; exact hV
    have hb8_1 : isI cI (k_L (rkM C (f9) (c9) (kd) (sd))) (k_F (rkM C (f9) (c9) (kd) (sd))) (hs) (n9) (f9) := by rw [rkM_L, rkM_F]; exact hI
    have hP : va_P D vwCl (kX cI cJ cZ cV cR a (k_ra (rkM C (f9) (c9) (kd) (sd))) (k_rb (rkM C (f9) (c9) (kd) (sd))) (k_vc (rkM C (f9) (c9) (kd) (sd))) (k_rc (rkM C (f9) (c9) (kd) (sd))) (k_pc (rkM C (f9) (c9) (kd) (sd))) (k_nw (rkM C (f9) (c9) (kd) (sd))) (k_n (rkM C (f9) (c9) (kd) (sd))) (k_fn (rkM C (f9) (c9) (kd) (sd))) (k_sn (rkM C (f9) (c9) (kd) (sd))) (k_kc (rkM C (f9) (c9) (kd) (sd))) (k_grp (rkM C (f9) (c9) (kd) (sd))) (k_key (rkM C (f9) (c9) (kd) (sd))) (k_srt (rkM C (f9) (c9) (kd) (sd))) (k_wt (rkM C (f9) (c9) (kd) (sd))) (k_home (rkM C (f9) (c9) (kd) (sd))) (k_drp (rkM C (f9) (c9) (kd) (sd))) (k_met (rkM C (f9) (c9) (kd) (sd))) (k_kin (rkM C (f9) (c9) (kd) (sd))) (k_alv (rkM C (f9) (c9) (kd) (sd))) (k_srs (rkM C (f9) (c9) (kd) (sd))) (k_row (rkM C (f9) (c9) (kd) (sd))) (k_sp (rkM C (f9) (c9) (kd) (sd))) (k_kis (rkM C (f9) (c9) (kd) (sd))) (k_pg (rkM C (f9) (c9) (kd) (sd))) (k_vq (rkM C (f9) (c9) (kd) (sd))) (k_rq (rkM C (f9) (c9) (kd) (sd))) (k_L (rkM C (f9) (c9) (kd) (sd))) (k_F (rkM C (f9) (c9) (kd) (sd)))) H := hP
    have hD : va_D A (kX cI cJ cZ cV cR a (k_ra (rkM C (f9) (c9) (kd) (sd))) (k_rb (rkM C (f9) (c9) (kd) (sd))) (k_vc (rkM C (f9) (c9) (kd) (sd))) (k_rc (rkM C (f9) (c9) (kd) (sd))) (k_pc (rkM C (f9) (c9) (kd) (sd))) (k_nw (rkM C (f9) (c9) (kd) (sd))) (k_n (rkM C (f9) (c9) (kd) (sd))) (k_fn (rkM C (f9) (c9) (kd) (sd))) (k_sn (rkM C (f9) (c9) (kd) (sd))) (k_kc (rkM C (f9) (c9) (kd) (sd))) (k_grp (rkM C (f9) (c9) (kd) (sd))) (k_key (rkM C (f9) (c9) (kd) (sd))) (k_srt (rkM C (f9) (c9) (kd) (sd))) (k_wt (rkM C (f9) (c9) (kd) (sd))) (k_home (rkM C (f9) (c9) (kd) (sd))) (k_drp (rkM C (f9) (c9) (kd) (sd))) (k_met (rkM C (f9) (c9) (kd) (sd))) (k_kin (rkM C (f9) (c9) (kd) (sd))) (k_alv (rkM C (f9) (c9) (kd) (sd))) (k_srs (rkM C (f9) (c9) (kd) (sd))) (k_row (rkM C (f9) (c9) (kd) (sd))) (k_sp (rkM C (f9) (c9) (kd) (sd))) (k_kis (rkM C (f9) (c9) (kd) (sd))) (k_pg (rkM C (f9) (c9) (kd) (sd))) (k_vq (rkM C (f9) (c9) (kd) (sd))) (k_rq (rkM C (f9) (c9) (kd) (sd))) (k_L (rkM C (f9) (c9) (kd) (sd))) (k_F (rkM C (f9) (c9) (kd) (sd)))) := hD
    refine lv_aload_n hx hb dX5_cursor_48 rfl (lv_at hl 1 rfl) ?_
    refine va_get (ci := 5) (v := .ref (a 11)) (C := RX5) (T := TX5) (N := 10) hx hb hts hiX5 hown hK hP 0 rfl rfl 2 (by decide) hf1 (fun _ h9 => h9) rfl dX5_cursor_49 ?_
    refine lv_iload hx hb dX5_cursor_52 (lv_at hl 5 rfl) ?_
    refine lv_iload hx hb dX5_cursor_54 (lv_at hl 6 rfl) ?_
    have hPm : va_P D vwCl (kW cI cJ cZ cV cR a (rkM C (f9) (c9) (kd) (sd))) H := by exact hP
    have hDm : va_D A (kW cI cJ cZ cV cR a (rkM C (f9) (c9) (kd) (sd))) := by exact hD
    refine wc_VWv (As := [.int (nI (m9)), .int (nI (k9))]) (rest := []) (wf := kW cI cJ cZ cV cR a) ⟨hx, hb, hml, hown, hts⟩ (c_X0_narrowToSlice l D cI cJ cZ cV cR a (rkM C (f9) (c9) (kd) (sd)) (ok_rkM hM (by omega) hf9) (m9) (k9) (by omega) (by omega) (by omega) H.size) (cwV 2 hts gX5_cursor_X0_narrowToSlice rfl rfl rfl (by decide +kernel) ⟨Nat.le_of_ble_eq_true rfl, Nat.le_of_ble_eq_true rfl⟩) hPm hK hDm hS hA 11 rfl rfl rfl hl.1 rfl (Nat.le_of_ble_eq_true rfl) dX5_cursor_56 ⟨Nat.le_of_ble_eq_true rfl, Nat.le_of_ble_eq_true rfl⟩ (fun u9 hq9 H locs hP hD hS => ?_)
    have hu9 := hq9.symm
    subst hu9
    have hb10_0 : isV (k_L (nsM (rkM C (f9) (c9) (kd) (sd)) (m9) (k9))) (k_F (nsM (rkM C (f9) (c9) (kd) (sd)) (m9) (k9))) (q) (hs) (se) (c9) (g9) (st9) (r9) := by rw [nsM_L, nsM_F]; exact hb8_0
    have hb10_1 : isI cI (k_L (nsM (rkM C (f9) (c9) (kd) (sd)) (m9) (k9))) (k_F (nsM (rkM C (f9) (c9) (kd) (sd)) (m9) (k9))) (hs) (n9) (f9) := by rw [nsM_L, nsM_F]; exact hb8_1
    have hP : va_P D vwCl (kX cI cJ cZ cV cR a (k_ra (nsM (rkM C (f9) (c9) (kd) (sd)) (m9) (k9))) (k_rb (nsM (rkM C (f9) (c9) (kd) (sd)) (m9) (k9))) (k_vc (nsM (rkM C (f9) (c9) (kd) (sd)) (m9) (k9))) (k_rc (nsM (rkM C (f9) (c9) (kd) (sd)) (m9) (k9))) (k_pc (nsM (rkM C (f9) (c9) (kd) (sd)) (m9) (k9))) (k_nw (nsM (rkM C (f9) (c9) (kd) (sd)) (m9) (k9))) (k_n (nsM (rkM C (f9) (c9) (kd) (sd)) (m9) (k9))) (k_fn (nsM (rkM C (f9) (c9) (kd) (sd)) (m9) (k9))) (k_sn (nsM (rkM C (f9) (c9) (kd) (sd)) (m9) (k9))) (k_kc (nsM (rkM C (f9) (c9) (kd) (sd)) (m9) (k9))) (k_grp (nsM (rkM C (f9) (c9) (kd) (sd)) (m9) (k9))) (k_key (nsM (rkM C (f9) (c9) (kd) (sd)) (m9) (k9))) (k_srt (nsM (rkM C (f9) (c9) (kd) (sd)) (m9) (k9))) (k_wt (nsM (rkM C (f9) (c9) (kd) (sd)) (m9) (k9))) (k_home (nsM (rkM C (f9) (c9) (kd) (sd)) (m9) (k9))) (k_drp (nsM (rkM C (f9) (c9) (kd) (sd)) (m9) (k9))) (k_met (nsM (rkM C (f9) (c9) (kd) (sd)) (m9) (k9))) (k_kin (nsM (rkM C (f9) (c9) (kd) (sd)) (m9) (k9))) (k_alv (nsM (rkM C (f9) (c9) (kd) (sd)) (m9) (k9))) (k_srs (nsM (rkM C (f9) (c9) (kd) (sd)) (m9) (k9))) (k_row (nsM (rkM C (f9) (c9) (kd) (sd)) (m9) (k9))) (k_sp (nsM (rkM C (f9) (c9) (kd) (sd)) (m9) (k9))) (k_kis (nsM (rkM C (f9) (c9) (kd) (sd)) (m9) (k9))) (k_pg (nsM (rkM C (f9) (c9) (kd) (sd)) (m9) (k9))) (k_vq (nsM (rkM C (f9) (c9) (kd) (sd)) (m9) (k9))) (k_rq (nsM (rkM C (f9) (c9) (kd) (sd)) (m9) (k9))) (k_L (nsM (rkM C (f9) (c9) (kd) (sd)) (m9) (k9))) (k_F (nsM (rkM C (f9) (c9) (kd) (sd)) (m9) (k9)))) H := hP
    have hD : va_D A (kX cI cJ cZ cV cR a (k_ra (nsM (rkM C (f9) (c9) (kd) (sd)) (m9) (k9))) (k_rb (nsM (rkM C (f9) (c9) (kd) (sd)) (m9) (k9))) (k_vc (nsM (rkM C (f9) (c9) (kd) (sd)) (m9) (k9))) (k_rc (nsM (rkM C (f9) (c9) (kd) (sd)) (m9) (k9))) (k_pc (nsM (rkM C (f9) (c9) (kd) (sd)) (m9) (k9))) (k_nw (nsM (rkM C (f9) (c9) (kd) (sd)) (m9) (k9))) (k_n (nsM (rkM C (f9) (c9) (kd) (sd)) (m9) (k9))) (k_fn (nsM (rkM C (f9) (c9) (kd) (sd)) (m9) (k9))) (k_sn (nsM (rkM C (f9) (c9) (kd) (sd)) (m9) (k9))) (k_kc (nsM (rkM C (f9) (c9) (kd) (sd)) (m9) (k9))) (k_grp (nsM (rkM C (f9) (c9) (kd) (sd)) (m9) (k9))) (k_key (nsM (rkM C (f9) (c9) (kd) (sd)) (m9) (k9))) (k_srt (nsM (rkM C (f9) (c9) (kd) (sd)) (m9) (k9))) (k_wt (nsM (rkM C (f9) (c9) (kd) (sd)) (m9) (k9))) (k_home (nsM (rkM C (f9) (c9) (kd) (sd)) (m9) (k9))) (k_drp (nsM (rkM C (f9) (c9) (kd) (sd)) (m9) (k9))) (k_met (nsM (rkM C (f9) (c9) (kd) (sd)) (m9) (k9))) (k_kin (nsM (rkM C (f9) (c9) (kd) (sd)) (m9) (k9))) (k_alv (nsM (rkM C (f9) (c9) (kd) (sd)) (m9) (k9))) (k_srs (nsM (rkM C (f9) (c9) (kd) (sd)) (m9) (k9))) (k_row (nsM (rkM C (f9) (c9) (kd) (sd)) (m9) (k9))) (k_sp (nsM (rkM C (f9) (c9) (kd) (sd)) (m9) (k9))) (k_kis (nsM (rkM C (f9) (c9) (kd) (sd)) (m9) (k9))) (k_pg (nsM (rkM C (f9) (c9) (kd) (sd)) (m9) (k9))) (k_vq (nsM (rkM C (f9) (c9) (kd) (sd)) (m9) (k9))) (k_rq (nsM (rkM C (f9) (c9) (kd) (sd)) (m9) (k9))) (k_L (nsM (rkM C (f9) (c9) (kd) (sd)) (m9) (k9))) (k_F (nsM (rkM C (f9) (c9) (kd) (sd)) (m9) (k9)))) := hD
    have hrcb : k_rc (nsM (rkM C (f9) (c9) (kd) (sd)) (m9) (k9)) = k_rc C := by rw [nsM_rc, rkM_rc]
    have hnwb : k_nw (nsM (rkM C (f9) (c9) (kd) (sd)) (m9) (k9)) = k_nw C := by rw [nsM_nw, rkM_nw]
    have hkcb : k_kc (nsM (rkM C (f9) (c9) (kd) (sd)) (m9) (k9)) ≤ 300 := (ok_nsM (mn := m9) (wh := k9) (ok_rkM hM (by omega) hf9)).2.2.2.2.2.2.2.1
    have hMB : kOk (nsM (rkM C (f9) (c9) (kd) (sd)) (m9) (k9)) := (ok_nsM (mn := m9) (wh := k9) (ok_rkM hM (by omega) hf9))
    generalize hBe : (nsM (rkM C (f9) (c9) (kd) (sd)) (m9) (k9)) = B at hP hD hMB hrcb hnwb hkcb hb10_0 hb10_1 ⊢
    refine wp_new (ci := 1) (fs := [.null, .null, .int (bI (false)), .int (nI (0)), .int (nI (0)), .int (nI (0)), .int (bI (false))]) (C := RX1) (T := TX1) (N := 7) hx hb hts hiX1 tyX1 tyX1_ok hown hf2 hf3 hf4 hK hP hD hS hA rfl dfX1 (Nat.le_of_ble_eq_true rfl) (Nat.le_of_ble_eq_true rfl) dX5_cursor_59 (fun q11 H hfq11 hP hD hS => ?_)
    refine W.widen (k := 1) (n := 7) (Nat.le_refl _) (Nat.le_refl _) ?_
    have hP : va_P D vwCl (kX cI cJ cZ cV cR a (k_ra B) (k_rb B) (k_vc B) (k_rc B) (k_pc B) (k_nw B) (k_n B) (k_fn B) (k_sn B) (k_kc B) (k_grp B) (k_key B) (k_srt B) (k_wt B) (k_home B) (k_drp B) (k_met B) (k_kin B) (k_alv B) (k_srs B) (k_row B) (k_sp B) (k_kis B) (k_pg B) (k_vq B) (k_rq B) (k_L B ++ [q11]) (va_up (k_F B) (q11) (.inr (1, [.null, .null, .int (bI (false)), .int (nI (0)), .int (nI (0)), .int (nI (0)), .int (bI (false))])))) H := hP
    have hD : va_D A (kX cI cJ cZ cV cR a (k_ra B) (k_rb B) (k_vc B) (k_rc B) (k_pc B) (k_nw B) (k_n B) (k_fn B) (k_sn B) (k_kc B) (k_grp B) (k_key B) (k_srt B) (k_wt B) (k_home B) (k_drp B) (k_met B) (k_kin B) (k_alv B) (k_srs B) (k_row B) (k_sp B) (k_kis B) (k_pg B) (k_vq B) (k_rq B) (k_L B ++ [q11]) (va_up (k_F B) (q11) (.inr (1, [.null, .null, .int (bI (false)), .int (nI (0)), .int (nI (0)), .int (nI (0)), .int (bI (false))])))) := hD
    have hp12_0 : isV (k_L B ++ [q11]) (va_up (k_F B) (q11) (.inr (1, [.null, .null, .int (bI (false)), .int (nI (0)), .int (nI (0)), .int (nI (0)), .int (bI (false))]))) (q) (hs) (se) (c9) (g9) (st9) (r9) := isE.push hb10_0 hfq11
    have hp12_1 : isI cI (k_L B ++ [q11]) (va_up (k_F B) (q11) (.inr (1, [.null, .null, .int (bI (false)), .int (nI (0)), .int (nI (0)), .int (nI (0)), .int (bI (false))]))) (hs) (n9) (f9) := isE.push hb10_1 hfq11
    have hp12_q : isE (k_L B ++ [q11]) (va_up (k_F B) (q11) (.inr (1, [.null, .null, .int (bI (false)), .int (nI (0)), .int (nI (0)), .int (nI (0)), .int (bI (false))]))) (q11) (.inr (1, [.null, .null, .int (bI (false)), .int (nI (0)), .int (nI (0)), .int (nI (0)), .int (bI (false))])) := isE.new _ _ _ _
    refine lv_dup hx hb dX5_cursor_62 rfl ?_
    refine lv_aload hx hb dX5_cursor_63 (lv_at hl 0 rfl) ?_
    refine lv_aload_n hx hb dX5_cursor_65 rfl (lv_at hl 1 rfl) ?_
    refine va_get (ci := 5) (v := .ref (a 11)) (C := RX5) (T := TX5) (N := 10) hx hb hts hiX5 hown hK hP 0 rfl rfl 2 (by decide) hf1 (fun _ h9 => h9) rfl dX5_cursor_66 ?_
    have hPm : va_P D vwCl (kW cI cJ cZ cV cR a (mkC (k_ra B) (k_rb B) (k_vc B) (k_rc B) (k_pc B) (k_nw B) (k_n B) (k_fn B) (k_sn B) (k_kc B) (k_grp B) (k_key B) (k_srt B) (k_wt B) (k_home B) (k_drp B) (k_met B) (k_kin B) (k_alv B) (k_srs B) (k_row B) (k_sp B) (k_kis B) (k_pg B) (k_vq B) (k_rq B) (k_L B ++ [q11]) (va_up (k_F B) (q11) (.inr (1, [.null, .null, .int (bI (false)), .int (nI (0)), .int (nI (0)), .int (nI (0)), .int (bI (false))]))))) H := by rw [← kX_mk]; exact hP
    have hDm : va_D A (kW cI cJ cZ cV cR a (mkC (k_ra B) (k_rb B) (k_vc B) (k_rc B) (k_pc B) (k_nw B) (k_n B) (k_fn B) (k_sn B) (k_kc B) (k_grp B) (k_key B) (k_srt B) (k_wt B) (k_home B) (k_drp B) (k_met B) (k_kin B) (k_alv B) (k_srs B) (k_row B) (k_sp B) (k_kis B) (k_pg B) (k_vq B) (k_rq B) (k_L B ++ [q11]) (va_up (k_F B) (q11) (.inr (1, [.null, .null, .int (bI (false)), .int (nI (0)), .int (nI (0)), .int (nI (0)), .int (bI (false))]))))) := by rw [← kX_mk]; exact hD
    refine wc_VWrn (As := []) (rest := [.ref (q), .ref (q11), .ref (q11)]) (ra := Prod.fst) (wf := fun u => kW cI cJ cZ cV cR a u.2) ⟨hx, hb, hml, hown, hts⟩ (c_X0_copyRow l D cI cJ cZ cV cR a (mkC (k_ra B) (k_rb B) (k_vc B) (k_rc B) (k_pc B) (k_nw B) (k_n B) (k_fn B) (k_sn B) (k_kc B) (k_grp B) (k_key B) (k_srt B) (k_wt B) (k_home B) (k_drp B) (k_met B) (k_kin B) (k_alv B) (k_srs B) (k_row B) (k_sp B) (k_kis B) (k_pg B) (k_vq B) (k_rq B) (k_L B ++ [q11]) (va_up (k_F B) (q11) (.inr (1, [.null, .null, .int (bI (false)), .int (nI (0)), .int (nI (0)), .int (nI (0)), .int (bI (false))])))) (ok_any hMB) H.size) (cwV 0 hts gX5_cursor_X0_copyRow rfl rfl rfl (by decide +kernel) ⟨Nat.le_of_ble_eq_true rfl, Nat.le_of_ble_eq_true rfl⟩) hPm hK hDm hS hA hNw 11 rfl rfl rfl hl.1 rfl (Nat.le_of_ble_eq_true rfl) dX5_cursor_69 ⟨Nat.le_of_ble_eq_true rfl, Nat.le_of_ble_eq_true rfl⟩ (fun u13 hq13 H locs hP hD hS => ?_)
    obtain ⟨q13, u13⟩ := u13
    obtain ⟨hnf13, hu13⟩ := hq13
    have hu13 : u13 = cwM cI (mkC (k_ra B) (k_rb B) (k_vc B) (k_rc B) (k_pc B) (k_nw B) (k_n B) (k_fn B) (k_sn B) (k_kc B) (k_grp B) (k_key B) (k_srt B) (k_wt B) (k_home B) (k_drp B) (k_met B) (k_kin B) (k_alv B) (k_srs B) (k_row B) (k_sp B) (k_kis B) (k_pg B) (k_vq B) (k_rq B) (k_L B ++ [q11]) (va_up (k_F B) (q11) (.inr (1, [.null, .null, .int (bI (false)), .int (nI (0)), .int (nI (0)), .int (nI (0)), .int (bI (false))])))) q13 := hu13
    subst hu13
    dsimp only at hP hD
    rw [kW_cwM_mk] at hP hD
    refine W.widen (k := 2) (n := 307) (Nat.le_refl _) (Nat.le_refl _) ?_
    have hp14_0 : isV (k_L B ++ [q11] ++ [q13]) (va_up (va_up (k_F B) (q11) (.inr (1, [.null, .null, .int (bI (false)), .int (nI (0)), .int (nI (0)), .int (nI (0)), .int (bI (false))]))) (q13) (.inl (cI, k_kc B, .inl (fun j => nI ((cpR (k_row B) (k_kc B)) j))))) (q) (hs) (se) (c9) (g9) (st9) (r9) := isE.push hp12_0 hnf13
    have hp14_1 : isI cI (k_L B ++ [q11] ++ [q13]) (va_up (va_up (k_F B) (q11) (.inr (1, [.null, .null, .int (bI (false)), .int (nI (0)), .int (nI (0)), .int (nI (0)), .int (bI (false))]))) (q13) (.inl (cI, k_kc B, .inl (fun j => nI ((cpR (k_row B) (k_kc B)) j))))) (hs) (n9) (f9) := isE.push hp12_1 hnf13
    have hp14_2 : isE (k_L B ++ [q11] ++ [q13]) (va_up (va_up (k_F B) (q11) (.inr (1, [.null, .null, .int (bI (false)), .int (nI (0)), .int (nI (0)), .int (nI (0)), .int (bI (false))]))) (q13) (.inl (cI, k_kc B, .inl (fun j => nI ((cpR (k_row B) (k_kc B)) j))))) (q11) (.inr (1, [.null, .null, .int (bI (false)), .int (nI (0)), .int (nI (0)), .int (nI (0)), .int (bI (false))])) := isE.push hp12_q hnf13
    have hp14_q : isI cI (k_L B ++ [q11] ++ [q13]) (va_up (va_up (k_F B) (q11) (.inr (1, [.null, .null, .int (bI (false)), .int (nI (0)), .int (nI (0)), .int (nI (0)), .int (bI (false))]))) (q13) (.inl (cI, k_kc B, .inl (fun j => nI ((cpR (k_row B) (k_kc B)) j))))) (q13) (k_kc B) (cpR (k_row B) (k_kc B)) := isE.new _ _ _ _
    have hP : va_P D vwCl (kX cI cJ cZ cV cR a (k_ra B) (k_rb B) (k_vc B) (k_rc B) (k_pc B) (k_nw B) (k_n B) (k_fn B) (k_sn B) (k_kc B) (k_grp B) (k_key B) (k_srt B) (k_wt B) (k_home B) (k_drp B) (k_met B) (k_kin B) (k_alv B) (k_srs B) (k_row B) (k_sp B) (k_kis B) (k_pg B) (k_vq B) (k_rq B) (k_L B ++ [q11] ++ [q13]) (va_up (va_up (k_F B) (q11) (.inr (1, [.null, .null, .int (bI (false)), .int (nI (0)), .int (nI (0)), .int (nI (0)), .int (bI (false))]))) (q13) (.inl (cI, k_kc B, .inl (fun j => nI ((cpR (k_row B) (k_kc B)) j)))))) H := hP
    have hD : va_D A (kX cI cJ cZ cV cR a (k_ra B) (k_rb B) (k_vc B) (k_rc B) (k_pc B) (k_nw B) (k_n B) (k_fn B) (k_sn B) (k_kc B) (k_grp B) (k_key B) (k_srt B) (k_wt B) (k_home B) (k_drp B) (k_met B) (k_kin B) (k_alv B) (k_srs B) (k_row B) (k_sp B) (k_kis B) (k_pg B) (k_vq B) (k_rq B) (k_L B ++ [q11] ++ [q13]) (va_up (va_up (k_F B) (q11) (.inr (1, [.null, .null, .int (bI (false)), .int (nI (0)), .int (nI (0)), .int (nI (0)), .int (bI (false))]))) (q13) (.inl (cI, k_kc B, .inl (fun j => nI ((cpR (k_row B) (k_kc B)) j)))))) := hD
    refine lv_iconst (v := bI (true)) hx hb dX5_cursor_72 (by decide) ?_
    refine lv_iload hx hb dX5_cursor_73 (lv_at hl 7 rfl) ?_
    have hPm : va_P D vwCl (kW cI cJ cZ cV cR a (mkC (k_ra B) (k_rb B) (k_vc B) (k_rc B) (k_pc B) (k_nw B) (k_n B) (k_fn B) (k_sn B) (k_kc B) (k_grp B) (k_key B) (k_srt B) (k_wt B) (k_home B) (k_drp B) (k_met B) (k_kin B) (k_alv B) (k_srs B) (k_row B) (k_sp B) (k_kis B) (k_pg B) (k_vq B) (k_rq B) (k_L B ++ [q11] ++ [q13]) (va_up (va_up (k_F B) (q11) (.inr (1, [.null, .null, .int (bI (false)), .int (nI (0)), .int (nI (0)), .int (nI (0)), .int (bI (false))]))) (q13) (.inl (cI, k_kc B, .inl (fun j => nI ((cpR (k_row B) (k_kc B)) j))))))) H := by rw [← kX_mk]; exact hP
    have hDm : va_D A (kW cI cJ cZ cV cR a (mkC (k_ra B) (k_rb B) (k_vc B) (k_rc B) (k_pc B) (k_nw B) (k_n B) (k_fn B) (k_sn B) (k_kc B) (k_grp B) (k_key B) (k_srt B) (k_wt B) (k_home B) (k_drp B) (k_met B) (k_kin B) (k_alv B) (k_srs B) (k_row B) (k_sp B) (k_kis B) (k_pg B) (k_vq B) (k_rq B) (k_L B ++ [q11] ++ [q13]) (va_up (va_up (k_F B) (q11) (.inr (1, [.null, .null, .int (bI (false)), .int (nI (0)), .int (nI (0)), .int (nI (0)), .int (bI (false))]))) (q13) (.inl (cI, k_kc B, .inl (fun j => nI ((cpR (k_row B) (k_kc B)) j))))))) := by rw [← kX_mk]; exact hD
    refine wc_IWv (As := [.ref (q), .ref (q13), .int (bI (true)), .int (nI (kp9))]) (rest := [.ref (q11)]) (wf := kW cI cJ cZ cV cR a) ⟨hx, hb, hml, hown, hts⟩ (c_X1_init l D cI cJ cZ cV cR a (mkC (k_ra B) (k_rb B) (k_vc B) (k_rc B) (k_pc B) (k_nw B) (k_n B) (k_fn B) (k_sn B) (k_kc B) (k_grp B) (k_key B) (k_srt B) (k_wt B) (k_home B) (k_drp B) (k_met B) (k_kin B) (k_alv B) (k_srs B) (k_row B) (k_sp B) (k_kis B) (k_pg B) (k_vq B) (k_rq B) (k_L B ++ [q11] ++ [q13]) (va_up (va_up (k_F B) (q11) (.inr (1, [.null, .null, .int (bI (false)), .int (nI (0)), .int (nI (0)), .int (nI (0)), .int (bI (false))]))) (q13) (.inl (cI, k_kc B, .inl (fun j => nI ((cpR (k_row B) (k_kc B)) j)))))) (ok_any hMB) (q11) (q) (q13) (true) (kp9) (by rw [mkC_L, mkC_F]; exact hp14_2) H.size) (cwI 4 hts gX5_cursor_X1_init rfl rfl rfl hf4 hf5 hf6 rfl (by decide +kernel) ⟨Nat.le_of_ble_eq_true rfl, Nat.le_of_ble_eq_true rfl⟩) hPm hK hDm hS hA rfl hl.1 rfl (Nat.le_of_ble_eq_true rfl) dX5_cursor_75 ⟨Nat.le_of_ble_eq_true rfl, Nat.le_of_ble_eq_true rfl⟩ (fun u15 hq15 H locs hP hD hS => ?_)
    have hu15 := hq15.symm
    subst hu15
    rw [kW_riM_mk] at hP hD
    have hp16_0 : isV (k_L B ++ [q11] ++ [q13]) (va_up (va_up (va_up (k_F B) (q11) (.inr (1, [.null, .null, .int (bI (false)), .int (nI (0)), .int (nI (0)), .int (nI (0)), .int (bI (false))]))) (q13) (.inl (cI, k_kc B, .inl (fun j => nI ((cpR (k_row B) (k_kc B)) j))))) (q11) (.inr (1, [.ref (q), .ref (q13), .int (bI (true)), .int (nI (kp9)), .int (nI (0)), .int (nI (0)), .int (bI (false))]))) (q) (hs) (se) (c9) (g9) (st9) (r9) := isE.keep hp14_0 (ne_of_F hp14_0.2 hp14_2.2 (fun h => nomatch h))
    have hp16_1 : isI cI (k_L B ++ [q11] ++ [q13]) (va_up (va_up (va_up (k_F B) (q11) (.inr (1, [.null, .null, .int (bI (false)), .int (nI (0)), .int (nI (0)), .int (nI (0)), .int (bI (false))]))) (q13) (.inl (cI, k_kc B, .inl (fun j => nI ((cpR (k_row B) (k_kc B)) j))))) (q11) (.inr (1, [.ref (q), .ref (q13), .int (bI (true)), .int (nI (kp9)), .int (nI (0)), .int (nI (0)), .int (bI (false))]))) (hs) (n9) (f9) := isE.keep hp14_1 (ne_of_F hp14_1.2 hp14_2.2 (fun h => nomatch h))
    have hp16_2 : isI cI (k_L B ++ [q11] ++ [q13]) (va_up (va_up (va_up (k_F B) (q11) (.inr (1, [.null, .null, .int (bI (false)), .int (nI (0)), .int (nI (0)), .int (nI (0)), .int (bI (false))]))) (q13) (.inl (cI, k_kc B, .inl (fun j => nI ((cpR (k_row B) (k_kc B)) j))))) (q11) (.inr (1, [.ref (q), .ref (q13), .int (bI (true)), .int (nI (kp9)), .int (nI (0)), .int (nI (0)), .int (bI (false))]))) (q13) (k_kc B) (cpR (k_row B) (k_kc B)) := isE.keep hp14_q (ne_of_F hp14_q.2 hp14_2.2 (fun h => nomatch h))
    have hp16_q : isR (k_L B ++ [q11] ++ [q13]) (va_up (va_up (va_up (k_F B) (q11) (.inr (1, [.null, .null, .int (bI (false)), .int (nI (0)), .int (nI (0)), .int (nI (0)), .int (bI (false))]))) (q13) (.inl (cI, k_kc B, .inl (fun j => nI ((cpR (k_row B) (k_kc B)) j))))) (q11) (.inr (1, [.ref (q), .ref (q13), .int (bI (true)), .int (nI (kp9)), .int (nI (0)), .int (nI (0)), .int (bI (false))]))) (q11) (q) (q13) (true) (kp9) (0) (0) (false) := ⟨hp14_2.1, va_up_self _ _ _⟩
    have hP : va_P D vwCl (kX cI cJ cZ cV cR a (k_ra B) (k_rb B) (k_vc B) (k_rc B) (k_pc B) (k_nw B) (k_n B) (k_fn B) (k_sn B) (k_kc B) (k_grp B) (k_key B) (k_srt B) (k_wt B) (k_home B) (k_drp B) (k_met B) (k_kin B) (k_alv B) (k_srs B) (k_row B) (k_sp B) (k_kis B) (k_pg B) (k_vq B) (k_rq B) (k_L B ++ [q11] ++ [q13]) (va_up (va_up (va_up (k_F B) (q11) (.inr (1, [.null, .null, .int (bI (false)), .int (nI (0)), .int (nI (0)), .int (nI (0)), .int (bI (false))]))) (q13) (.inl (cI, k_kc B, .inl (fun j => nI ((cpR (k_row B) (k_kc B)) j))))) (q11) (.inr (1, [.ref (q), .ref (q13), .int (bI (true)), .int (nI (kp9)), .int (nI (0)), .int (nI (0)), .int (bI (false))])))) H := hP
    have hD : va_D A (kX cI cJ cZ cV cR a (k_ra B) (k_rb B) (k_vc B) (k_rc B) (k_pc B) (k_nw B) (k_n B) (k_fn B) (k_sn B) (k_kc B) (k_grp B) (k_key B) (k_srt B) (k_wt B) (k_home B) (k_drp B) (k_met B) (k_kin B) (k_alv B) (k_srs B) (k_row B) (k_sp B) (k_kis B) (k_pg B) (k_vq B) (k_rq B) (k_L B ++ [q11] ++ [q13]) (va_up (va_up (va_up (k_F B) (q11) (.inr (1, [.null, .null, .int (bI (false)), .int (nI (0)), .int (nI (0)), .int (nI (0)), .int (bI (false))]))) (q13) (.inl (cI, k_kc B, .inl (fun j => nI ((cpR (k_row B) (k_kc B)) j))))) (q11) (.inr (1, [.ref (q), .ref (q13), .int (bI (true)), .int (nI (kp9)), .int (nI (0)), .int (nI (0)), .int (bI (false))])))) := hD
    refine lv_astore (lv' := [(9, .ref (q11)), (8, .ref (q)), (0, .ref (a 0)), (1, .int (nI (i))), (2, .int (nI (kd))), (3, .long (sd)), (5, .int (nI (m9))), (6, .int (nI (k9))), (7, .int (nI (kp9)))]) hx hb dX5_cursor_78 hl (by decide) rfl (fun ls hl => ?_)
    refine lv_aload hx hb dX5_cursor_80 (lv_at hl 0 rfl) ?_
    refine lv_aload_n hx hb dX5_cursor_82 rfl (lv_at hl 2 rfl) ?_
    refine va_get (ci := 5) (v := .int (nI (k_nw B))) (C := RX5) (T := TX5) (N := 10) hx hb hts hiX5 hown hK hP 0 rfl rfl 9 (by decide) hf7 (fun _ h9 => h9) rfl dX5_cursor_83 ?_
    refine lv_iload hx hb dX5_cursor_86 (lv_at hl 8 rfl) ?_
    refine lv_iadd hx hb dX5_cursor_88 (ww_top (y := nI (k_nw B + kp9)) (nI_addn _ _) ?_)
    refine wp_put (ci := 1) (v := .int (nI (k_nw B + kp9))) (ty := .int) (C := RX1) (T := TX1) (N := 7) hx hb hts hiX1 tyX1 tyX1_ok nmX1 hown hK hP hD hS hp16_q.1 hp16_q.2 rfl 5 (by decide) hf8 (fun _ h9 => h9) rfl (by decide +kernel) rfl rfl (Nat.le_of_ble_eq_true rfl) dX5_cursor_89 (fun H locs hP hD hS => ?_)
    rw [bx_uu] at hP hD
    have hP : va_P D vwCl (kX cI cJ cZ cV cR a (k_ra B) (k_rb B) (k_vc B) (k_rc B) (k_pc B) (k_nw B) (k_n B) (k_fn B) (k_sn B) (k_kc B) (k_grp B) (k_key B) (k_srt B) (k_wt B) (k_home B) (k_drp B) (k_met B) (k_kin B) (k_alv B) (k_srs B) (k_row B) (k_sp B) (k_kis B) (k_pg B) (k_vq B) (k_rq B) (k_L B ++ [q11] ++ [q13]) (va_up (va_up (va_up (k_F B) (q11) (.inr (1, [.null, .null, .int (bI (false)), .int (nI (0)), .int (nI (0)), .int (nI (0)), .int (bI (false))]))) (q13) (.inl (cI, k_kc B, .inl (fun j => nI ((cpR (k_row B) (k_kc B)) j))))) (q11) (.inr (1, [.ref (q), .ref (q13), .int (bI (true)), .int (nI (kp9)), .int (nI (0)), .int (nI (k_nw B + kp9)), .int (bI (false))])))) H := hP
    have hD : va_D A (kX cI cJ cZ cV cR a (k_ra B) (k_rb B) (k_vc B) (k_rc B) (k_pc B) (k_nw B) (k_n B) (k_fn B) (k_sn B) (k_kc B) (k_grp B) (k_key B) (k_srt B) (k_wt B) (k_home B) (k_drp B) (k_met B) (k_kin B) (k_alv B) (k_srs B) (k_row B) (k_sp B) (k_kis B) (k_pg B) (k_vq B) (k_rq B) (k_L B ++ [q11] ++ [q13]) (va_up (va_up (va_up (k_F B) (q11) (.inr (1, [.null, .null, .int (bI (false)), .int (nI (0)), .int (nI (0)), .int (nI (0)), .int (bI (false))]))) (q13) (.inl (cI, k_kc B, .inl (fun j => nI ((cpR (k_row B) (k_kc B)) j))))) (q11) (.inr (1, [.ref (q), .ref (q13), .int (bI (true)), .int (nI (kp9)), .int (nI (0)), .int (nI (k_nw B + kp9)), .int (bI (false))])))) := hD
    have hp17_0 : isV (k_L B ++ [q11] ++ [q13]) (va_up (va_up (va_up (k_F B) (q11) (.inr (1, [.null, .null, .int (bI (false)), .int (nI (0)), .int (nI (0)), .int (nI (0)), .int (bI (false))]))) (q13) (.inl (cI, k_kc B, .inl (fun j => nI ((cpR (k_row B) (k_kc B)) j))))) (q11) (.inr (1, [.ref (q), .ref (q13), .int (bI (true)), .int (nI (kp9)), .int (nI (0)), .int (nI (k_nw B + kp9)), .int (bI (false))]))) (q) (hs) (se) (c9) (g9) (st9) (r9) := isE.keep2 hp16_0 (ne_of_F hp16_0.2 hp16_q.2 (fun h => nomatch h))
    have hp17_1 : isI cI (k_L B ++ [q11] ++ [q13]) (va_up (va_up (va_up (k_F B) (q11) (.inr (1, [.null, .null, .int (bI (false)), .int (nI (0)), .int (nI (0)), .int (nI (0)), .int (bI (false))]))) (q13) (.inl (cI, k_kc B, .inl (fun j => nI ((cpR (k_row B) (k_kc B)) j))))) (q11) (.inr (1, [.ref (q), .ref (q13), .int (bI (true)), .int (nI (kp9)), .int (nI (0)), .int (nI (k_nw B + kp9)), .int (bI (false))]))) (hs) (n9) (f9) := isE.keep2 hp16_1 (ne_of_F hp16_1.2 hp16_q.2 (fun h => nomatch h))
    have hp17_2 : isI cI (k_L B ++ [q11] ++ [q13]) (va_up (va_up (va_up (k_F B) (q11) (.inr (1, [.null, .null, .int (bI (false)), .int (nI (0)), .int (nI (0)), .int (nI (0)), .int (bI (false))]))) (q13) (.inl (cI, k_kc B, .inl (fun j => nI ((cpR (k_row B) (k_kc B)) j))))) (q11) (.inr (1, [.ref (q), .ref (q13), .int (bI (true)), .int (nI (kp9)), .int (nI (0)), .int (nI (k_nw B + kp9)), .int (bI (false))]))) (q13) (k_kc B) (cpR (k_row B) (k_kc B)) := isE.keep2 hp16_2 (ne_of_F hp16_2.2 hp16_q.2 (fun h => nomatch h))
    have hp17_q : isR (k_L B ++ [q11] ++ [q13]) (va_up (va_up (va_up (k_F B) (q11) (.inr (1, [.null, .null, .int (bI (false)), .int (nI (0)), .int (nI (0)), .int (nI (0)), .int (bI (false))]))) (q13) (.inl (cI, k_kc B, .inl (fun j => nI ((cpR (k_row B) (k_kc B)) j))))) (q11) (.inr (1, [.ref (q), .ref (q13), .int (bI (true)), .int (nI (kp9)), .int (nI (0)), .int (nI (k_nw B + kp9)), .int (bI (false))]))) (q11) (q) (q13) (true) (kp9) (0) (k_nw B + kp9) (false) := ⟨hp16_q.1, va_up_self _ _ _⟩
    refine lv_aload_n hx hb dX5_cursor_92 rfl (lv_at hl 2 rfl) ?_
    refine lv_aload hx hb dX5_cursor_93 (lv_at hl 0 rfl) ?_
    have hPm : va_P D vwCl (kW cI cJ cZ cV cR a (mkC (k_ra B) (k_rb B) (k_vc B) (k_rc B) (k_pc B) (k_nw B) (k_n B) (k_fn B) (k_sn B) (k_kc B) (k_grp B) (k_key B) (k_srt B) (k_wt B) (k_home B) (k_drp B) (k_met B) (k_kin B) (k_alv B) (k_srs B) (k_row B) (k_sp B) (k_kis B) (k_pg B) (k_vq B) (k_rq B) (k_L B ++ [q11] ++ [q13]) (va_up (va_up (va_up (k_F B) (q11) (.inr (1, [.null, .null, .int (bI (false)), .int (nI (0)), .int (nI (0)), .int (nI (0)), .int (bI (false))]))) (q13) (.inl (cI, k_kc B, .inl (fun j => nI ((cpR (k_row B) (k_kc B)) j))))) (q11) (.inr (1, [.ref (q), .ref (q13), .int (bI (true)), .int (nI (kp9)), .int (nI (0)), .int (nI (k_nw B + kp9)), .int (bI (false))]))))) H := by rw [← kX_mk]; exact hP
    have hDm : va_D A (kW cI cJ cZ cV cR a (mkC (k_ra B) (k_rb B) (k_vc B) (k_rc B) (k_pc B) (k_nw B) (k_n B) (k_fn B) (k_sn B) (k_kc B) (k_grp B) (k_key B) (k_srt B) (k_wt B) (k_home B) (k_drp B) (k_met B) (k_kin B) (k_alv B) (k_srs B) (k_row B) (k_sp B) (k_kis B) (k_pg B) (k_vq B) (k_rq B) (k_L B ++ [q11] ++ [q13]) (va_up (va_up (va_up (k_F B) (q11) (.inr (1, [.null, .null, .int (bI (false)), .int (nI (0)), .int (nI (0)), .int (nI (0)), .int (bI (false))]))) (q13) (.inl (cI, k_kc B, .inl (fun j => nI ((cpR (k_row B) (k_kc B)) j))))) (q11) (.inr (1, [.ref (q), .ref (q13), .int (bI (true)), .int (nI (kp9)), .int (nI (0)), .int (nI (k_nw B + kp9)), .int (bI (false))]))))) := by rw [← kX_mk]; exact hD
    refine wc_VWi (As := [.ref (q11)]) (rest := []) (wf := kW cI cJ cZ cV cR a) ⟨hx, hb, hml, hown, hts⟩ (c_X5_openReader l D cI cJ cZ cV cR a (mkC (k_ra B) (k_rb B) (k_vc B) (k_rc B) (k_pc B) (k_nw B) (k_n B) (k_fn B) (k_sn B) (k_kc B) (k_grp B) (k_key B) (k_srt B) (k_wt B) (k_home B) (k_drp B) (k_met B) (k_kin B) (k_alv B) (k_srs B) (k_row B) (k_sp B) (k_kis B) (k_pg B) (k_vq B) (k_rq B) (k_L B ++ [q11] ++ [q13]) (va_up (va_up (va_up (k_F B) (q11) (.inr (1, [.null, .null, .int (bI (false)), .int (nI (0)), .int (nI (0)), .int (nI (0)), .int (bI (false))]))) (q13) (.inl (cI, k_kc B, .inl (fun j => nI ((cpR (k_row B) (k_kc B)) j))))) (q11) (.inr (1, [.ref (q), .ref (q13), .int (bI (true)), .int (nI (kp9)), .int (nI (0)), .int (nI (k_nw B + kp9)), .int (bI (false))])))) (ok_any hMB) (q11) (q) (q13) (true) (kp9) (0) (k_nw B + kp9) (false) (k_kc B) (cpR (k_row B) (k_kc B)) (by rw [mkC_L, mkC_F]; exact hp17_q) (by rw [mkC_L, mkC_F]; exact hp17_2) (by omega) (by omega) (by omega) (by omega) (hs) (se) (c9) (g9) (st9) (r9) (by rw [mkC_L, mkC_F]; exact hp17_0) (by omega) (by omega) (by omega) (by omega) (by rw [mkC_rc]; omega) H.size) (cwV 1 hts gX5_cursor_X5_openReader rfl rfl rfl (by decide +kernel) ⟨Nat.le_of_ble_eq_true rfl, Nat.le_of_ble_eq_true rfl⟩) hPm hK hDm hS hA 0 rfl rfl rfl hl.1 rfl (Nat.le_of_ble_eq_true rfl) dX5_cursor_95 ⟨Nat.le_of_ble_eq_true rfl, Nat.le_of_ble_eq_true rfl⟩ (fun rr u18 hq18 H locs hP hD hS => ?_)
    obtain ⟨hr18, hu18⟩ := hq18
    subst hr18
    have hu18 := hu18.symm
    subst hu18
    rw [kW_orM_mk] at hP hD
    have hp19_0 : isI cI (k_L B ++ [q11] ++ [q13]) (va_up (va_up (va_up (va_up (k_F B) (q11) (.inr (1, [.null, .null, .int (bI (false)), .int (nI (0)), .int (nI (0)), .int (nI (0)), .int (bI (false))]))) (q13) (.inl (cI, k_kc B, .inl (fun j => nI ((cpR (k_row B) (k_kc B)) j))))) (q11) (.inr (1, [.ref (q), .ref (q13), .int (bI (true)), .int (nI (kp9)), .int (nI (0)), .int (nI (k_nw B + kp9)), .int (bI (false))]))) (q) (.inr (4, [.ref (hs), .ref (se), .int (nI (c9)), .int (nI (g9)), .int (nI (st9)), .int (nI (r9 + 1))]))) (hs) (n9) (f9) := isE.keep hp17_1 (ne_of_F hp17_1.2 hp17_0.2 (fun h => nomatch h))
    have hp19_1 : isI cI (k_L B ++ [q11] ++ [q13]) (va_up (va_up (va_up (va_up (k_F B) (q11) (.inr (1, [.null, .null, .int (bI (false)), .int (nI (0)), .int (nI (0)), .int (nI (0)), .int (bI (false))]))) (q13) (.inl (cI, k_kc B, .inl (fun j => nI ((cpR (k_row B) (k_kc B)) j))))) (q11) (.inr (1, [.ref (q), .ref (q13), .int (bI (true)), .int (nI (kp9)), .int (nI (0)), .int (nI (k_nw B + kp9)), .int (bI (false))]))) (q) (.inr (4, [.ref (hs), .ref (se), .int (nI (c9)), .int (nI (g9)), .int (nI (st9)), .int (nI (r9 + 1))]))) (q13) (k_kc B) (cpR (k_row B) (k_kc B)) := isE.keep hp17_2 (ne_of_F hp17_2.2 hp17_0.2 (fun h => nomatch h))
    have hp19_2 : isR (k_L B ++ [q11] ++ [q13]) (va_up (va_up (va_up (va_up (k_F B) (q11) (.inr (1, [.null, .null, .int (bI (false)), .int (nI (0)), .int (nI (0)), .int (nI (0)), .int (bI (false))]))) (q13) (.inl (cI, k_kc B, .inl (fun j => nI ((cpR (k_row B) (k_kc B)) j))))) (q11) (.inr (1, [.ref (q), .ref (q13), .int (bI (true)), .int (nI (kp9)), .int (nI (0)), .int (nI (k_nw B + kp9)), .int (bI (false))]))) (q) (.inr (4, [.ref (hs), .ref (se), .int (nI (c9)), .int (nI (g9)), .int (nI (st9)), .int (nI (r9 + 1))]))) (q11) (q) (q13) (true) (kp9) (0) (k_nw B + kp9) (false) := isE.keep hp17_q (ne_of_F hp17_q.2 hp17_0.2 (fun h => nomatch h))
    have hp19_q : isV (k_L B ++ [q11] ++ [q13]) (va_up (va_up (va_up (va_up (k_F B) (q11) (.inr (1, [.null, .null, .int (bI (false)), .int (nI (0)), .int (nI (0)), .int (nI (0)), .int (bI (false))]))) (q13) (.inl (cI, k_kc B, .inl (fun j => nI ((cpR (k_row B) (k_kc B)) j))))) (q11) (.inr (1, [.ref (q), .ref (q13), .int (bI (true)), .int (nI (kp9)), .int (nI (0)), .int (nI (k_nw B + kp9)), .int (bI (false))]))) (q) (.inr (4, [.ref (hs), .ref (se), .int (nI (c9)), .int (nI (g9)), .int (nI (st9)), .int (nI (r9 + 1))]))) (q) (hs) (se) (c9) (g9) (st9) (r9 + 1) := ⟨hp17_0.1, va_up_self _ _ _⟩
    have hP : va_P D vwCl (kX cI cJ cZ cV cR a (k_ra B) (k_rb B) (k_vc B) (k_rc B + 1) (k_pc B) (k_nw B) (k_n B) (k_fn B) (k_sn B) (k_kc B) (k_grp B) (k_key B) (k_srt B) (k_wt B) (k_home B) (k_drp B) (k_met B) (k_kin B) (k_alv B) (k_srs B) (k_row B) (k_sp B) (k_kis B) (k_pg B) (k_vq B) (va_up (k_rq B) (k_rc B) (some (q11))) (k_L B ++ [q11] ++ [q13]) (va_up (va_up (va_up (va_up (k_F B) (q11) (.inr (1, [.null, .null, .int (bI (false)), .int (nI (0)), .int (nI (0)), .int (nI (0)), .int (bI (false))]))) (q13) (.inl (cI, k_kc B, .inl (fun j => nI ((cpR (k_row B) (k_kc B)) j))))) (q11) (.inr (1, [.ref (q), .ref (q13), .int (bI (true)), .int (nI (kp9)), .int (nI (0)), .int (nI (k_nw B + kp9)), .int (bI (false))]))) (q) (.inr (4, [.ref (hs), .ref (se), .int (nI (c9)), .int (nI (g9)), .int (nI (st9)), .int (nI (r9 + 1))])))) H := hP
    have hD : va_D A (kX cI cJ cZ cV cR a (k_ra B) (k_rb B) (k_vc B) (k_rc B + 1) (k_pc B) (k_nw B) (k_n B) (k_fn B) (k_sn B) (k_kc B) (k_grp B) (k_key B) (k_srt B) (k_wt B) (k_home B) (k_drp B) (k_met B) (k_kin B) (k_alv B) (k_srs B) (k_row B) (k_sp B) (k_kis B) (k_pg B) (k_vq B) (va_up (k_rq B) (k_rc B) (some (q11))) (k_L B ++ [q11] ++ [q13]) (va_up (va_up (va_up (va_up (k_F B) (q11) (.inr (1, [.null, .null, .int (bI (false)), .int (nI (0)), .int (nI (0)), .int (nI (0)), .int (bI (false))]))) (q13) (.inl (cI, k_kc B, .inl (fun j => nI ((cpR (k_row B) (k_kc B)) j))))) (q11) (.inr (1, [.ref (q), .ref (q13), .int (bI (true)), .int (nI (kp9)), .int (nI (0)), .int (nI (k_nw B + kp9)), .int (bI (false))]))) (q) (.inr (4, [.ref (hs), .ref (se), .int (nI (c9)), .int (nI (g9)), .int (nI (st9)), .int (nI (r9 + 1))])))) := hD
    refine ww_top (y := nI (k_rc B)) (by rw [mkC_rc]) ?_
    have hPm : va_P D vwCl (kW cI cJ cZ cV cR a (mkC (k_ra B) (k_rb B) (k_vc B) (k_rc B + 1) (k_pc B) (k_nw B) (k_n B) (k_fn B) (k_sn B) (k_kc B) (k_grp B) (k_key B) (k_srt B) (k_wt B) (k_home B) (k_drp B) (k_met B) (k_kin B) (k_alv B) (k_srs B) (k_row B) (k_sp B) (k_kis B) (k_pg B) (k_vq B) (va_up (k_rq B) (k_rc B) (some (q11))) (k_L B ++ [q11] ++ [q13]) (va_up (va_up (va_up (va_up (k_F B) (q11) (.inr (1, [.null, .null, .int (bI (false)), .int (nI (0)), .int (nI (0)), .int (nI (0)), .int (bI (false))]))) (q13) (.inl (cI, k_kc B, .inl (fun j => nI ((cpR (k_row B) (k_kc B)) j))))) (q11) (.inr (1, [.ref (q), .ref (q13), .int (bI (true)), .int (nI (kp9)), .int (nI (0)), .int (nI (k_nw B + kp9)), .int (bI (false))]))) (q) (.inr (4, [.ref (hs), .ref (se), .int (nI (c9)), .int (nI (g9)), .int (nI (st9)), .int (nI (r9 + 1))]))))) H := by rw [← kX_mk]; exact hP
    have hDm : va_D A (kW cI cJ cZ cV cR a (mkC (k_ra B) (k_rb B) (k_vc B) (k_rc B + 1) (k_pc B) (k_nw B) (k_n B) (k_fn B) (k_sn B) (k_kc B) (k_grp B) (k_key B) (k_srt B) (k_wt B) (k_home B) (k_drp B) (k_met B) (k_kin B) (k_alv B) (k_srs B) (k_row B) (k_sp B) (k_kis B) (k_pg B) (k_vq B) (va_up (k_rq B) (k_rc B) (some (q11))) (k_L B ++ [q11] ++ [q13]) (va_up (va_up (va_up (va_up (k_F B) (q11) (.inr (1, [.null, .null, .int (bI (false)), .int (nI (0)), .int (nI (0)), .int (nI (0)), .int (bI (false))]))) (q13) (.inl (cI, k_kc B, .inl (fun j => nI ((cpR (k_row B) (k_kc B)) j))))) (q11) (.inr (1, [.ref (q), .ref (q13), .int (bI (true)), .int (nI (kp9)), .int (nI (0)), .int (nI (k_nw B + kp9)), .int (bI (false))]))) (q) (.inr (4, [.ref (hs), .ref (se), .int (nI (c9)), .int (nI (g9)), .int (nI (st9)), .int (nI (r9 + 1))]))))) := by rw [← kX_mk]; exact hD
    exact W.iret (v := nI (k_rc B)) hx hb hr (fun t ht hW => ⟨⟨_, (mkC (k_ra B) (k_rb B) (k_vc B) (k_rc B + 1) (k_pc B) (k_nw B) (k_n B) (k_fn B) (k_sn B) (k_kc B) (k_grp B) (k_key B) (k_srt B) (k_wt B) (k_home B) (k_drp B) (k_met B) (k_kin B) (k_alv B) (k_srs B) (k_row B) (k_sp B) (k_kis B) (k_pg B) (k_vq B) (va_up (k_rq B) (k_rc B) (some (q11))) (k_L B ++ [q11] ++ [q13]) (va_up (va_up (va_up (va_up (k_F B) (q11) (.inr (1, [.null, .null, .int (bI (false)), .int (nI (0)), .int (nI (0)), .int (nI (0)), .int (bI (false))]))) (q13) (.inl (cI, k_kc B, .inl (fun j => nI ((cpR (k_row B) (k_kc B)) j))))) (q11) (.inr (1, [.ref (q), .ref (q13), .int (bI (true)), .int (nI (kp9)), .int (nI (0)), .int (nI (k_nw B + kp9)), .int (bI (false))]))) (q) (.inr (4, [.ref (hs), .ref (se), .int (nI (c9)), .int (nI (g9)), .int (nI (st9)), .int (nI (r9 + 1))])))), rfl, ⟨fun h => absurd h (by omega), fun _ => ⟨by rw [hrcb], q11, q13, hfq11, hnf13, rfl⟩⟩, gb_mk ht hW hPm hK hDm⟩, hS.F ht⟩) hS.2.2 dX5_cursor_98
  · refine lv_bipush (v := zI ((-4))) hx hb dX5_cursor_37 (by decide) ?_
    refine W.widen (k := 2) (n := 307) (Nat.le_of_ble_eq_true rfl) (Nat.le_of_ble_eq_true rfl) ?_
    have hPm : va_P D vwCl (kW cI cJ cZ cV cR a C) H := by exact hP
    have hDm : va_D A (kW cI cJ cZ cV cR a C) := by exact hD
    exact W.iret (v := zI ((-4))) hx hb hr (fun t ht hW => ⟨⟨_, C, rfl, ⟨fun _ => ⟨rfl, rfl⟩, fun h => absurd h (by omega)⟩, gb_mk ht hW hPm hK hDm⟩, hS.F ht⟩) hS.2.2 dX5_cursor_39
def rmx_X5_cursor_v : Room := { frames := 7, cells := 1, slots := 6, locals := 104 }
set_option maxHeartbeats 4000000 in
set_option maxRecDepth 100000 in
/-- no such view -/
theorem x_X5_cursor_v (l : Launch) (htr : l.stackTraces = false) (D : va_G) (cI cJ cZ cV cR : ClassId) (a : Nat → Nat) (C : CT) (hM : kOk C) (x y : Int32) (sd : Int64) (z w kk : Int32) (hbad : x.toInt < 0 ∨ ((k_vc C : Nat) : Int) ≤ x.toInt) (sz : Nat) : vx_Met l yX5_cursor wsX5_cursor rmx_X5_cursor_v (va_Pc [.ref (a 0), .int (x), .int (y), .long (sd), .int (z), .int (w), .int (kk)] (GX D (tyK cI cJ cZ cV cR) (kW cI cJ cZ cV cR a C) sz)) xNo (xXC D (tyK cI cJ cZ cV cR) "java/lang/IndexOutOfBoundsException" (fun u : CT => u = C) (kW cI cJ cZ cV cR a) (va_A (kW cI cJ cZ cV cR a C) sz)) 1 6 (va_A (kW cI cJ cZ cV cR a C) sz) := by
  obtain ⟨hn, hfn, hsn, hvc, hrc, hpc, hnw, hkc, h_home, h_kin, h_alv, h_srs, h_row, h_sp, h_kis, h_pg⟩ := id hM
  refine vx_ofW (cc := cX5_cursor) (maxL := 10) (ret := (some .int)) (by decide) rfl ?_
  intro p e s m args below meth c s₁ B hml hout hv
  obtain ⟨rfl, ⟨hsz, hP, hK, hD0⟩, hXE⟩ := hv
  have hx := B.exec
  have hb := B.bytes
  have hr := B.returns
  have hts := atoms_spec (ws := wsX5_cursor) B.pre
  have hown : s.vm.findClass RX5 = some m.cls := findClass_of_methodNamed B.named
  have hlocks := B.notSynchronized
  subst hsz
  have hD := hD0.self (sz := s.heap.size)
  generalize hAe : va_A (kW cI cJ cZ cV cR a C) s.heap.size = A at hD hXE ⊢
  have hA : ∀ q : Nat, s.heap.size ≤ q → A q := fun q h => by rw [← hAe]; exact Or.inr h
  have hS : va_S A s.heap s.heap [] := va_S.rf
  have hP : va_P D vwCl (kX cI cJ cZ cV cR a (k_ra C) (k_rb C) (k_vc C) (k_rc C) (k_pc C) (k_nw C) (k_n C) (k_fn C) (k_sn C) (k_kc C) (k_grp C) (k_key C) (k_srt C) (k_wt C) (k_home C) (k_drp C) (k_met C) (k_kin C) (k_alv C) (k_srs C) (k_row C) (k_sp C) (k_kis C) (k_pg C) (k_vq C) (k_rq C) (k_L C) (k_F C)) s.heap := hP
  have hD : va_D A (kX cI cJ cZ cV cR a (k_ra C) (k_rb C) (k_vc C) (k_rc C) (k_pc C) (k_nw C) (k_n C) (k_fn C) (k_sn C) (k_kc C) (k_grp C) (k_key C) (k_srt C) (k_wt C) (k_home C) (k_drp C) (k_met C) (k_kin C) (k_alv C) (k_srs C) (k_row C) (k_sp C) (k_kis C) (k_pg C) (k_vq C) (k_rq C) (k_L C) (k_F C)) := hD
  have hl := lv_entry ([.ref (a 0), .int (x), .int (y), .long (sd), .int (z), .int (w), .int (kk)]) (n := 10) (Nat.le_of_ble_eq_true rfl)
  rw [lg_entry_eq]
  generalize (lg_sl ([.ref (a 0), .int (x), .int (y), .long (sd), .int (z), .int (w), .int (kk)]) ++ List.replicate (10 - (lg_sl ([.ref (a 0), .int (x), .int (y), .long (sd), .int (z), .int (w), .int (kk)])).length) Slot.unset).toArray = ls at hl ⊢
  have hl : lv_has ls 10 [(0, .ref (a 0)), (1, .int (x)), (2, .int (y)), (3, .long (sd)), (5, .int (z)), (6, .int (w)), (7, .int (kk))] := hl
  refine lv_aload_n hx hb dX5_cursor_0 rfl (lv_at hl 0 rfl) ?_
  refine lv_iload_n hx hb dX5_cursor_1 rfl (lv_at hl 1 rfl) ?_
  have hPm : va_P D vwCl (kW cI cJ cZ cV cR a C) s.heap := by exact hP
  have hDm : va_D A (kW cI cJ cZ cV cR a C) := by exact hD
  refine wx_V (As := [.int (x)]) (rest := []) (wf := kW cI cJ cZ cV cR a) ⟨hx, hb, hml, hown, hts⟩ (x_X5_viewAt l htr D cI cJ cZ cV cR a C hM x hbad s.heap.size) (cwV 1 hts gX5_cursor_X5_viewAt rfl rfl rfl (by decide +kernel) ⟨Nat.le_of_ble_eq_true rfl, Nat.le_of_ble_eq_true rfl⟩) hPm hK hDm hS hA hXE 0 rfl rfl rfl hl.1 rfl (Nat.le_of_ble_eq_true rfl) dX5_cursor_2 ⟨Nat.le_of_ble_eq_true rfl, Nat.le_of_ble_eq_true rfl⟩ (fun u hu H locs ce q9 hP hD hS hce hcv hcl => ?_)
  exact vx_out (fun x h => (hout x h).elim) hlocks hce hcv hcl (xxc_eq u hu hP hK hD hS) hS.2.2 (Nat.le_refl _) (Nat.le_refl _)
def rmx_X5_cursor_k : Room := { frames := 7, cells := 1, slots := 6, locals := 102 }
set_option maxHeartbeats 4000000 in
set_option maxRecDepth 100000 in
/-- no such kind -/
theorem x_X5_cursor_k (l : Launch) (htr : l.stackTraces = false) (D : va_G) (cI cJ cZ cV cR : ClassId) (a : Nat → Nat) (C : CT) (hM : kOk C) (q hs se c9 g9 st9 r9 n9 : Nat) (f9 : Nat → Nat) (hV : isV (k_L C) (k_F C) q hs se c9 g9 st9 r9) (hI : isI cI (k_L C) (k_F C) hs n9 f9) (hc9 : c9 ≤ n9) (hn9 : n9 ≤ 300) (hg9 : g9 ≤ 300) (hst9 : st9 ≤ 2) (hr9 : r9 ≤ 60) (hf9 : ∀ j, f9 j < 300) (i : Nat) (hi9 : i < k_vc C) (hq9 : k_vq C i = some q) (x : Int32) (sd : Int64) (z w kk : Int32) (hbad : x.toInt < 0 ∨ ((3 : Nat) : Int) ≤ x.toInt) (sz : Nat) : vx_Met l yX5_cursor wsX5_cursor rmx_X5_cursor_k (va_Pc [.ref (a 0), .int (nI (i)), .int (x), .long (sd), .int (z), .int (w), .int (kk)] (GX D (tyK cI cJ cZ cV cR) (kW cI cJ cZ cV cR a C) sz)) xNo (xXC D (tyK cI cJ cZ cV cR) "java/lang/IllegalArgumentException" (fun u : CT => u = C) (kW cI cJ cZ cV cR a) (va_A (kW cI cJ cZ cV cR a C) sz)) 1 6 (va_A (kW cI cJ cZ cV cR a C) sz) := by
  obtain ⟨hn, hfn, hsn, hvc, hrc, hpc, hnw, hkc, h_home, h_kin, h_alv, h_srs, h_row, h_sp, h_kis, h_pg⟩ := id hM
  refine vx_ofW (cc := cX5_cursor) (maxL := 10) (ret := (some .int)) (by decide) rfl ?_
  intro p e s m args below meth c s₁ B hml hout hv
  obtain ⟨rfl, ⟨hsz, hP, hK, hD0⟩, hXE⟩ := hv
  have hx := B.exec
  have hb := B.bytes
  have hr := B.returns
  have hts := atoms_spec (ws := wsX5_cursor) B.pre
  have hown : s.vm.findClass RX5 = some m.cls := findClass_of_methodNamed B.named
  have hlocks := B.notSynchronized
  subst hsz
  have hD := hD0.self (sz := s.heap.size)
  generalize hAe : va_A (kW cI cJ cZ cV cR a C) s.heap.size = A at hD hXE ⊢
  have hA : ∀ q : Nat, s.heap.size ≤ q → A q := fun q h => by rw [← hAe]; exact Or.inr h
  have hS : va_S A s.heap s.heap [] := va_S.rf
  have hP : va_P D vwCl (kX cI cJ cZ cV cR a (k_ra C) (k_rb C) (k_vc C) (k_rc C) (k_pc C) (k_nw C) (k_n C) (k_fn C) (k_sn C) (k_kc C) (k_grp C) (k_key C) (k_srt C) (k_wt C) (k_home C) (k_drp C) (k_met C) (k_kin C) (k_alv C) (k_srs C) (k_row C) (k_sp C) (k_kis C) (k_pg C) (k_vq C) (k_rq C) (k_L C) (k_F C)) s.heap := hP
  have hD : va_D A (kX cI cJ cZ cV cR a (k_ra C) (k_rb C) (k_vc C) (k_rc C) (k_pc C) (k_nw C) (k_n C) (k_fn C) (k_sn C) (k_kc C) (k_grp C) (k_key C) (k_srt C) (k_wt C) (k_home C) (k_drp C) (k_met C) (k_kin C) (k_alv C) (k_srs C) (k_row C) (k_sp C) (k_kis C) (k_pg C) (k_vq C) (k_rq C) (k_L C) (k_F C)) := hD
  have hl := lv_entry ([.ref (a 0), .int (nI (i)), .int (x), .long (sd), .int (z), .int (w), .int (kk)]) (n := 10) (Nat.le_of_ble_eq_true rfl)
  rw [lg_entry_eq]
  generalize (lg_sl ([.ref (a 0), .int (nI (i)), .int (x), .long (sd), .int (z), .int (w), .int (kk)]) ++ List.replicate (10 - (lg_sl ([.ref (a 0), .int (nI (i)), .int (x), .long (sd), .int (z), .int (w), .int (kk)])).length) Slot.unset).toArray = ls at hl ⊢
  have hl : lv_has ls 10 [(0, .ref (a 0)), (1, .int (nI (i))), (2, .int (x)), (3, .long (sd)), (5, .int (z)), (6, .int (w)), (7, .int (kk))] := hl
  refine lv_aload_n hx hb dX5_cursor_0 rfl (lv_at hl 0 rfl) ?_
  refine lv_iload_n hx hb dX5_cursor_1 rfl (lv_at hl 1 rfl) ?_
  have hPm : va_P D vwCl (kW cI cJ cZ cV cR a C) s.heap := by exact hP
  have hDm : va_D A (kW cI cJ cZ cV cR a C) := by exact hD
  refine wc_VWr (As := [.int (nI (i))]) (rest := []) (ra := Prod.fst) (wf := fun u => kW cI cJ cZ cV cR a u.2) ⟨hx, hb, hml, hown, hts⟩ (c_X5_viewAt l D cI cJ cZ cV cR a C hM (i) (q) (by omega) hq9 s.heap.size) (cwV 1 hts gX5_cursor_X5_viewAt rfl rfl rfl (by decide +kernel) ⟨Nat.le_of_ble_eq_true rfl, Nat.le_of_ble_eq_true rfl⟩) hPm hK hDm hS hA 0 rfl rfl rfl hl.1 rfl (Nat.le_of_ble_eq_true rfl) dX5_cursor_2 ⟨Nat.le_of_ble_eq_true rfl, Nat.le_of_ble_eq_true rfl⟩ (fun u1 hq1 H locs hP hD hS => ?_)
  have hu1 := hq1
  subst hu1
  have hP : va_P D vwCl (kX cI cJ cZ cV cR a (k_ra C) (k_rb C) (k_vc C) (k_rc C) (k_pc C) (k_nw C) (k_n C) (k_fn C) (k_sn C) (k_kc C) (k_grp C) (k_key C) (k_srt C) (k_wt C) (k_home C) (k_drp C) (k_met C) (k_kin C) (k_alv C) (k_srs C) (k_row C) (k_sp C) (k_kis C) (k_pg C) (k_vq C) (k_rq C) (k_L C) (k_F C)) H := hP
  have hD : va_D A (kX cI cJ cZ cV cR a (k_ra C) (k_rb C) (k_vc C) (k_rc C) (k_pc C) (k_nw C) (k_n C) (k_fn C) (k_sn C) (k_kc C) (k_grp C) (k_key C) (k_srt C) (k_wt C) (k_home C) (k_drp C) (k_met C) (k_kin C) (k_alv C) (k_srs C) (k_row C) (k_sp C) (k_kis C) (k_pg C) (k_vq C) (k_rq C) (k_L C) (k_F C)) := hD
  refine lv_astore (lv' := [(8, .ref (q)), (0, .ref (a 0)), (1, .int (nI (i))), (2, .int (x)), (3, .long (sd)), (5, .int (z)), (6, .int (w)), (7, .int (kk))]) hx hb dX5_cursor_5 hl (by decide) rfl (fun ls hl => ?_)
  refine lv_iload_n hx hb dX5_cursor_7 rfl (lv_at hl 3 rfl) ?_
  have hPm : va_P D vwCl (kW cI cJ cZ cV cR a C) H := by exact hP
  have hDm : va_D A (kW cI cJ cZ cV cR a C) := by exact hD
  refine wx_S (As := [.int (x)]) (rest := []) (wf := kW cI cJ cZ cV cR a) ⟨hx, hb, hml, hown, hts⟩ (x_X5_checkKind l htr D cI cJ cZ cV cR a C hM x hbad H.size) (va_cwS 1 hts gX5_cursor_X5_checkKind rfl rfl rfl (by decide +kernel) ⟨Nat.le_of_ble_eq_true rfl, Nat.le_of_ble_eq_true rfl⟩) hPm hK hDm hS hA hXE rfl hl.1 rfl (Nat.le_of_ble_eq_true rfl) dX5_cursor_8 ⟨Nat.le_of_ble_eq_true rfl, Nat.le_of_ble_eq_true rfl⟩ (fun u hu H locs ce q9 hP hD hS hce hcv hcl => ?_)
  exact vx_out (fun x h => (hout x h).elim) hlocks hce hcv hcl (xxc_eq u hu hP hK hD hS) hS.2.2 (Nat.le_refl _) (Nat.le_refl _)
def rmx_X5_cursor_s : Room := { frames := 7, cells := 1, slots := 6, locals := 103 }
set_option maxHeartbeats 4000000 in
set_option maxRecDepth 100000 in
/-- no such slice -/
theorem x_X5_cursor_s (l : Launch) (htr : l.stackTraces = false) (D : va_G) (cI cJ cZ cV cR : ClassId) (a : Nat → Nat) (C : CT) (hM : kOk C) (q hs se c9 g9 st9 r9 n9 : Nat) (f9 : Nat → Nat) (hV : isV (k_L C) (k_F C) q hs se c9 g9 st9 r9) (hI : isI cI (k_L C) (k_F C) hs n9 f9) (hc9 : c9 ≤ n9) (hn9 : n9 ≤ 300) (hg9 : g9 ≤ 300) (hst9 : st9 ≤ 2) (hr9 : r9 ≤ 60) (hf9 : ∀ j, f9 j < 300) (i : Nat) (hi9 : i < k_vc C) (hq9 : k_vq C i = some q) (kd : Nat) (sd : Int64) (x y kk : Int32) (hkd : kd < 3) (hbad : x.toInt < 1 ∨ 8 < x.toInt ∨ y.toInt < 0 ∨ x.toInt ≤ y.toInt) (sz : Nat) : vx_Met l yX5_cursor wsX5_cursor rmx_X5_cursor_s (va_Pc [.ref (a 0), .int (nI (i)), .int (nI (kd)), .long (sd), .int (x), .int (y), .int (kk)] (GX D (tyK cI cJ cZ cV cR) (kW cI cJ cZ cV cR a C) sz)) xNo (xXC D (tyK cI cJ cZ cV cR) "java/lang/IllegalArgumentException" (fun u : CT => u = C) (kW cI cJ cZ cV cR a) (va_A (kW cI cJ cZ cV cR a C) sz)) 1 6 (va_A (kW cI cJ cZ cV cR a C) sz) := by
  obtain ⟨hn, hfn, hsn, hvc, hrc, hpc, hnw, hkc, h_home, h_kin, h_alv, h_srs, h_row, h_sp, h_kis, h_pg⟩ := id hM
  refine vx_ofW (cc := cX5_cursor) (maxL := 10) (ret := (some .int)) (by decide) rfl ?_
  intro p e s m args below meth c s₁ B hml hout hv
  obtain ⟨rfl, ⟨hsz, hP, hK, hD0⟩, hXE⟩ := hv
  have hx := B.exec
  have hb := B.bytes
  have hr := B.returns
  have hts := atoms_spec (ws := wsX5_cursor) B.pre
  have hown : s.vm.findClass RX5 = some m.cls := findClass_of_methodNamed B.named
  have hlocks := B.notSynchronized
  subst hsz
  have hD := hD0.self (sz := s.heap.size)
  generalize hAe : va_A (kW cI cJ cZ cV cR a C) s.heap.size = A at hD hXE ⊢
  have hA : ∀ q : Nat, s.heap.size ≤ q → A q := fun q h => by rw [← hAe]; exact Or.inr h
  have hS : va_S A s.heap s.heap [] := va_S.rf
  have hP : va_P D vwCl (kX cI cJ cZ cV cR a (k_ra C) (k_rb C) (k_vc C) (k_rc C) (k_pc C) (k_nw C) (k_n C) (k_fn C) (k_sn C) (k_kc C) (k_grp C) (k_key C) (k_srt C) (k_wt C) (k_home C) (k_drp C) (k_met C) (k_kin C) (k_alv C) (k_srs C) (k_row C) (k_sp C) (k_kis C) (k_pg C) (k_vq C) (k_rq C) (k_L C) (k_F C)) s.heap := hP
  have hD : va_D A (kX cI cJ cZ cV cR a (k_ra C) (k_rb C) (k_vc C) (k_rc C) (k_pc C) (k_nw C) (k_n C) (k_fn C) (k_sn C) (k_kc C) (k_grp C) (k_key C) (k_srt C) (k_wt C) (k_home C) (k_drp C) (k_met C) (k_kin C) (k_alv C) (k_srs C) (k_row C) (k_sp C) (k_kis C) (k_pg C) (k_vq C) (k_rq C) (k_L C) (k_F C)) := hD
  have hl := lv_entry ([.ref (a 0), .int (nI (i)), .int (nI (kd)), .long (sd), .int (x), .int (y), .int (kk)]) (n := 10) (Nat.le_of_ble_eq_true rfl)
  rw [lg_entry_eq]
  generalize (lg_sl ([.ref (a 0), .int (nI (i)), .int (nI (kd)), .long (sd), .int (x), .int (y), .int (kk)]) ++ List.replicate (10 - (lg_sl ([.ref (a 0), .int (nI (i)), .int (nI (kd)), .long (sd), .int (x), .int (y), .int (kk)])).length) Slot.unset).toArray = ls at hl ⊢
  have hl : lv_has ls 10 [(0, .ref (a 0)), (1, .int (nI (i))), (2, .int (nI (kd))), (3, .long (sd)), (5, .int (x)), (6, .int (y)), (7, .int (kk))] := hl
  refine lv_aload_n hx hb dX5_cursor_0 rfl (lv_at hl 0 rfl) ?_
  refine lv_iload_n hx hb dX5_cursor_1 rfl (lv_at hl 1 rfl) ?_
  have hPm : va_P D vwCl (kW cI cJ cZ cV cR a C) s.heap := by exact hP
  have hDm : va_D A (kW cI cJ cZ cV cR a C) := by exact hD
  refine wc_VWr (As := [.int (nI (i))]) (rest := []) (ra := Prod.fst) (wf := fun u => kW cI cJ cZ cV cR a u.2) ⟨hx, hb, hml, hown, hts⟩ (c_X5_viewAt l D cI cJ cZ cV cR a C hM (i) (q) (by omega) hq9 s.heap.size) (cwV 1 hts gX5_cursor_X5_viewAt rfl rfl rfl (by decide +kernel) ⟨Nat.le_of_ble_eq_true rfl, Nat.le_of_ble_eq_true rfl⟩) hPm hK hDm hS hA 0 rfl rfl rfl hl.1 rfl (Nat.le_of_ble_eq_true rfl) dX5_cursor_2 ⟨Nat.le_of_ble_eq_true rfl, Nat.le_of_ble_eq_true rfl⟩ (fun u1 hq1 H locs hP hD hS => ?_)
  have hu1 := hq1
  subst hu1
  have hP : va_P D vwCl (kX cI cJ cZ cV cR a (k_ra C) (k_rb C) (k_vc C) (k_rc C) (k_pc C) (k_nw C) (k_n C) (k_fn C) (k_sn C) (k_kc C) (k_grp C) (k_key C) (k_srt C) (k_wt C) (k_home C) (k_drp C) (k_met C) (k_kin C) (k_alv C) (k_srs C) (k_row C) (k_sp C) (k_kis C) (k_pg C) (k_vq C) (k_rq C) (k_L C) (k_F C)) H := hP
  have hD : va_D A (kX cI cJ cZ cV cR a (k_ra C) (k_rb C) (k_vc C) (k_rc C) (k_pc C) (k_nw C) (k_n C) (k_fn C) (k_sn C) (k_kc C) (k_grp C) (k_key C) (k_srt C) (k_wt C) (k_home C) (k_drp C) (k_met C) (k_kin C) (k_alv C) (k_srs C) (k_row C) (k_sp C) (k_kis C) (k_pg C) (k_vq C) (k_rq C) (k_L C) (k_F C)) := hD
  refine lv_astore (lv' := [(8, .ref (q)), (0, .ref (a 0)), (1, .int (nI (i))), (2, .int (nI (kd))), (3, .long (sd)), (5, .int (x)), (6, .int (y)), (7, .int (kk))]) hx hb dX5_cursor_5 hl (by decide) rfl (fun ls hl => ?_)
  refine lv_iload_n hx hb dX5_cursor_7 rfl (lv_at hl 3 rfl) ?_
  have hPm : va_P D vwCl (kW cI cJ cZ cV cR a C) H := by exact hP
  have hDm : va_D A (kW cI cJ cZ cV cR a C) := by exact hD
  refine wc_SWv (As := [.int (nI (kd))]) (rest := []) (wf := kW cI cJ cZ cV cR a) ⟨hx, hb, hml, hown, hts⟩ (c_X5_checkKind l D cI cJ cZ cV cR a C hM (kd) (by omega) H.size) (va_cwS 1 hts gX5_cursor_X5_checkKind rfl rfl rfl (by decide +kernel) ⟨Nat.le_of_ble_eq_true rfl, Nat.le_of_ble_eq_true rfl⟩) hPm hK hDm hS hA rfl hl.1 rfl (Nat.le_of_ble_eq_true rfl) dX5_cursor_8 ⟨Nat.le_of_ble_eq_true rfl, Nat.le_of_ble_eq_true rfl⟩ (fun u2 hq2 H locs hP hD hS => ?_)
  have hu2 := hq2.symm
  subst hu2
  have hP : va_P D vwCl (kX cI cJ cZ cV cR a (k_ra C) (k_rb C) (k_vc C) (k_rc C) (k_pc C) (k_nw C) (k_n C) (k_fn C) (k_sn C) (k_kc C) (k_grp C) (k_key C) (k_srt C) (k_wt C) (k_home C) (k_drp C) (k_met C) (k_kin C) (k_alv C) (k_srs C) (k_row C) (k_sp C) (k_kis C) (k_pg C) (k_vq C) (k_rq C) (k_L C) (k_F C)) H := hP
  have hD : va_D A (kX cI cJ cZ cV cR a (k_ra C) (k_rb C) (k_vc C) (k_rc C) (k_pc C) (k_nw C) (k_n C) (k_fn C) (k_sn C) (k_kc C) (k_grp C) (k_key C) (k_srt C) (k_wt C) (k_home C) (k_drp C) (k_met C) (k_kin C) (k_alv C) (k_srs C) (k_row C) (k_sp C) (k_kis C) (k_pg C) (k_vq C) (k_rq C) (k_L C) (k_F C)) := hD
  refine lv_iload hx hb dX5_cursor_11 (lv_at hl 5 rfl) ?_
  refine lv_iload hx hb dX5_cursor_13 (lv_at hl 6 rfl) ?_
  have hPm : va_P D vwCl (kW cI cJ cZ cV cR a C) H := by exact hP
  have hDm : va_D A (kW cI cJ cZ cV cR a C) := by exact hD
  refine wx_S (As := [.int (x), .int (y)]) (rest := []) (wf := kW cI cJ cZ cV cR a) ⟨hx, hb, hml, hown, hts⟩ (x_X5_checkSlice l htr D cI cJ cZ cV cR a C hM x y hbad H.size) (va_cwS 2 hts gX5_cursor_X5_checkSlice rfl rfl rfl (by decide +kernel) ⟨Nat.le_of_ble_eq_true rfl, Nat.le_of_ble_eq_true rfl⟩) hPm hK hDm hS hA hXE rfl hl.1 rfl (Nat.le_of_ble_eq_true rfl) dX5_cursor_15 ⟨Nat.le_of_ble_eq_true rfl, Nat.le_of_ble_eq_true rfl⟩ (fun u hu H locs ce q9 hP hD hS hce hcv hcl => ?_)
  exact vx_out (fun x h => (hout x h).elim) hlocks hce hcv hcl (xxc_eq u hu hP hK hD hS) hS.2.2 (Nat.le_refl _) (Nat.le_refl _)
def rmx_X5_cursor_p : Room := { frames := 7, cells := 1, slots := 6, locals := 102 }
set_option maxHeartbeats 4000000 in
set_option maxRecDepth 100000 in
/-- no such keep -/
theorem x_X5_cursor_p (l : Launch) (htr : l.stackTraces = false) (D : va_G) (cI cJ cZ cV cR : ClassId) (a : Nat → Nat) (C : CT) (hM : kOk C) (q hs se c9 g9 st9 r9 n9 : Nat) (f9 : Nat → Nat) (hV : isV (k_L C) (k_F C) q hs se c9 g9 st9 r9) (hI : isI cI (k_L C) (k_F C) hs n9 f9) (hc9 : c9 ≤ n9) (hn9 : n9 ≤ 300) (hg9 : g9 ≤ 300) (hst9 : st9 ≤ 2) (hr9 : r9 ≤ 60) (hf9 : ∀ j, f9 j < 300) (i : Nat) (hi9 : i < k_vc C) (hq9 : k_vq C i = some q) (kd : Nat) (sd : Int64) (m9 k9 : Nat) (x : Int32) (hkd : kd < 3) (hm9 : 1 ≤ m9) (hm8 : m9 ≤ 8) (hk9 : k9 < m9) (hbad : x.toInt < 1 ∨ 1000 < x.toInt) (sz : Nat) : vx_Met l yX5_cursor wsX5_cursor rmx_X5_cursor_p (va_Pc [.ref (a 0), .int (nI (i)), .int (nI (kd)), .long (sd), .int (nI (m9)), .int (nI (k9)), .int (x)] (GX D (tyK cI cJ cZ cV cR) (kW cI cJ cZ cV cR a C) sz)) xNo (xXC D (tyK cI cJ cZ cV cR) "java/lang/IllegalArgumentException" (fun u : CT => u = C) (kW cI cJ cZ cV cR a) (va_A (kW cI cJ cZ cV cR a C) sz)) 1 6 (va_A (kW cI cJ cZ cV cR a C) sz) := by
  obtain ⟨hn, hfn, hsn, hvc, hrc, hpc, hnw, hkc, h_home, h_kin, h_alv, h_srs, h_row, h_sp, h_kis, h_pg⟩ := id hM
  refine vx_ofW (cc := cX5_cursor) (maxL := 10) (ret := (some .int)) (by decide) rfl ?_
  intro p e s m args below meth c s₁ B hml hout hv
  obtain ⟨rfl, ⟨hsz, hP, hK, hD0⟩, hXE⟩ := hv
  have hx := B.exec
  have hb := B.bytes
  have hr := B.returns
  have hts := atoms_spec (ws := wsX5_cursor) B.pre
  have hown : s.vm.findClass RX5 = some m.cls := findClass_of_methodNamed B.named
  have hlocks := B.notSynchronized
  subst hsz
  have hD := hD0.self (sz := s.heap.size)
  generalize hAe : va_A (kW cI cJ cZ cV cR a C) s.heap.size = A at hD hXE ⊢
  have hA : ∀ q : Nat, s.heap.size ≤ q → A q := fun q h => by rw [← hAe]; exact Or.inr h
  have hS : va_S A s.heap s.heap [] := va_S.rf
  have hP : va_P D vwCl (kX cI cJ cZ cV cR a (k_ra C) (k_rb C) (k_vc C) (k_rc C) (k_pc C) (k_nw C) (k_n C) (k_fn C) (k_sn C) (k_kc C) (k_grp C) (k_key C) (k_srt C) (k_wt C) (k_home C) (k_drp C) (k_met C) (k_kin C) (k_alv C) (k_srs C) (k_row C) (k_sp C) (k_kis C) (k_pg C) (k_vq C) (k_rq C) (k_L C) (k_F C)) s.heap := hP
  have hD : va_D A (kX cI cJ cZ cV cR a (k_ra C) (k_rb C) (k_vc C) (k_rc C) (k_pc C) (k_nw C) (k_n C) (k_fn C) (k_sn C) (k_kc C) (k_grp C) (k_key C) (k_srt C) (k_wt C) (k_home C) (k_drp C) (k_met C) (k_kin C) (k_alv C) (k_srs C) (k_row C) (k_sp C) (k_kis C) (k_pg C) (k_vq C) (k_rq C) (k_L C) (k_F C)) := hD
  have hl := lv_entry ([.ref (a 0), .int (nI (i)), .int (nI (kd)), .long (sd), .int (nI (m9)), .int (nI (k9)), .int (x)]) (n := 10) (Nat.le_of_ble_eq_true rfl)
  rw [lg_entry_eq]
  generalize (lg_sl ([.ref (a 0), .int (nI (i)), .int (nI (kd)), .long (sd), .int (nI (m9)), .int (nI (k9)), .int (x)]) ++ List.replicate (10 - (lg_sl ([.ref (a 0), .int (nI (i)), .int (nI (kd)), .long (sd), .int (nI (m9)), .int (nI (k9)), .int (x)])).length) Slot.unset).toArray = ls at hl ⊢
  have hl : lv_has ls 10 [(0, .ref (a 0)), (1, .int (nI (i))), (2, .int (nI (kd))), (3, .long (sd)), (5, .int (nI (m9))), (6, .int (nI (k9))), (7, .int (x))] := hl
  refine lv_aload_n hx hb dX5_cursor_0 rfl (lv_at hl 0 rfl) ?_
  refine lv_iload_n hx hb dX5_cursor_1 rfl (lv_at hl 1 rfl) ?_
  have hPm : va_P D vwCl (kW cI cJ cZ cV cR a C) s.heap := by exact hP
  have hDm : va_D A (kW cI cJ cZ cV cR a C) := by exact hD
  refine wc_VWr (As := [.int (nI (i))]) (rest := []) (ra := Prod.fst) (wf := fun u => kW cI cJ cZ cV cR a u.2) ⟨hx, hb, hml, hown, hts⟩ (c_X5_viewAt l D cI cJ cZ cV cR a C hM (i) (q) (by omega) hq9 s.heap.size) (cwV 1 hts gX5_cursor_X5_viewAt rfl rfl rfl (by decide +kernel) ⟨Nat.le_of_ble_eq_true rfl, Nat.le_of_ble_eq_true rfl⟩) hPm hK hDm hS hA 0 rfl rfl rfl hl.1 rfl (Nat.le_of_ble_eq_true rfl) dX5_cursor_2 ⟨Nat.le_of_ble_eq_true rfl, Nat.le_of_ble_eq_true rfl⟩ (fun u1 hq1 H locs hP hD hS => ?_)
  have hu1 := hq1
  subst hu1
  have hP : va_P D vwCl (kX cI cJ cZ cV cR a (k_ra C) (k_rb C) (k_vc C) (k_rc C) (k_pc C) (k_nw C) (k_n C) (k_fn C) (k_sn C) (k_kc C) (k_grp C) (k_key C) (k_srt C) (k_wt C) (k_home C) (k_drp C) (k_met C) (k_kin C) (k_alv C) (k_srs C) (k_row C) (k_sp C) (k_kis C) (k_pg C) (k_vq C) (k_rq C) (k_L C) (k_F C)) H := hP
  have hD : va_D A (kX cI cJ cZ cV cR a (k_ra C) (k_rb C) (k_vc C) (k_rc C) (k_pc C) (k_nw C) (k_n C) (k_fn C) (k_sn C) (k_kc C) (k_grp C) (k_key C) (k_srt C) (k_wt C) (k_home C) (k_drp C) (k_met C) (k_kin C) (k_alv C) (k_srs C) (k_row C) (k_sp C) (k_kis C) (k_pg C) (k_vq C) (k_rq C) (k_L C) (k_F C)) := hD
  refine lv_astore (lv' := [(8, .ref (q)), (0, .ref (a 0)), (1, .int (nI (i))), (2, .int (nI (kd))), (3, .long (sd)), (5, .int (nI (m9))), (6, .int (nI (k9))), (7, .int (x))]) hx hb dX5_cursor_5 hl (by decide) rfl (fun ls hl => ?_)
  refine lv_iload_n hx hb dX5_cursor_7 rfl (lv_at hl 3 rfl) ?_
  have hPm : va_P D vwCl (kW cI cJ cZ cV cR a C) H := by exact hP
  have hDm : va_D A (kW cI cJ cZ cV cR a C) := by exact hD
  refine wc_SWv (As := [.int (nI (kd))]) (rest := []) (wf := kW cI cJ cZ cV cR a) ⟨hx, hb, hml, hown, hts⟩ (c_X5_checkKind l D cI cJ cZ cV cR a C hM (kd) (by omega) H.size) (va_cwS 1 hts gX5_cursor_X5_checkKind rfl rfl rfl (by decide +kernel) ⟨Nat.le_of_ble_eq_true rfl, Nat.le_of_ble_eq_true rfl⟩) hPm hK hDm hS hA rfl hl.1 rfl (Nat.le_of_ble_eq_true rfl) dX5_cursor_8 ⟨Nat.le_of_ble_eq_true rfl, Nat.le_of_ble_eq_true rfl⟩ (fun u2 hq2 H locs hP hD hS => ?_)
  have hu2 := hq2.symm
  subst hu2
  have hP : va_P D vwCl (kX cI cJ cZ cV cR a (k_ra C) (k_rb C) (k_vc C) (k_rc C) (k_pc C) (k_nw C) (k_n C) (k_fn C) (k_sn C) (k_kc C) (k_grp C) (k_key C) (k_srt C) (k_wt C) (k_home C) (k_drp C) (k_met C) (k_kin C) (k_alv C) (k_srs C) (k_row C) (k_sp C) (k_kis C) (k_pg C) (k_vq C) (k_rq C) (k_L C) (k_F C)) H := hP
  have hD : va_D A (kX cI cJ cZ cV cR a (k_ra C) (k_rb C) (k_vc C) (k_rc C) (k_pc C) (k_nw C) (k_n C) (k_fn C) (k_sn C) (k_kc C) (k_grp C) (k_key C) (k_srt C) (k_wt C) (k_home C) (k_drp C) (k_met C) (k_kin C) (k_alv C) (k_srs C) (k_row C) (k_sp C) (k_kis C) (k_pg C) (k_vq C) (k_rq C) (k_L C) (k_F C)) := hD
  refine lv_iload hx hb dX5_cursor_11 (lv_at hl 5 rfl) ?_
  refine lv_iload hx hb dX5_cursor_13 (lv_at hl 6 rfl) ?_
  have hPm : va_P D vwCl (kW cI cJ cZ cV cR a C) H := by exact hP
  have hDm : va_D A (kW cI cJ cZ cV cR a C) := by exact hD
  refine wc_SWv (As := [.int (nI (m9)), .int (nI (k9))]) (rest := []) (wf := kW cI cJ cZ cV cR a) ⟨hx, hb, hml, hown, hts⟩ (c_X5_checkSlice l D cI cJ cZ cV cR a C hM (m9) (k9) (by omega) (by omega) (by omega) H.size) (va_cwS 2 hts gX5_cursor_X5_checkSlice rfl rfl rfl (by decide +kernel) ⟨Nat.le_of_ble_eq_true rfl, Nat.le_of_ble_eq_true rfl⟩) hPm hK hDm hS hA rfl hl.1 rfl (Nat.le_of_ble_eq_true rfl) dX5_cursor_15 ⟨Nat.le_of_ble_eq_true rfl, Nat.le_of_ble_eq_true rfl⟩ (fun u3 hq3 H locs hP hD hS => ?_)
  have hu3 := hq3.symm
  subst hu3
  have hP : va_P D vwCl (kX cI cJ cZ cV cR a (k_ra C) (k_rb C) (k_vc C) (k_rc C) (k_pc C) (k_nw C) (k_n C) (k_fn C) (k_sn C) (k_kc C) (k_grp C) (k_key C) (k_srt C) (k_wt C) (k_home C) (k_drp C) (k_met C) (k_kin C) (k_alv C) (k_srs C) (k_row C) (k_sp C) (k_kis C) (k_pg C) (k_vq C) (k_rq C) (k_L C) (k_F C)) H := hP
  have hD : va_D A (kX cI cJ cZ cV cR a (k_ra C) (k_rb C) (k_vc C) (k_rc C) (k_pc C) (k_nw C) (k_n C) (k_fn C) (k_sn C) (k_kc C) (k_grp C) (k_key C) (k_srt C) (k_wt C) (k_home C) (k_drp C) (k_met C) (k_kin C) (k_alv C) (k_srs C) (k_row C) (k_sp C) (k_kis C) (k_pg C) (k_vq C) (k_rq C) (k_L C) (k_F C)) := hD
  refine lv_iload hx hb dX5_cursor_18 (lv_at hl 7 rfl) ?_
  have hPm : va_P D vwCl (kW cI cJ cZ cV cR a C) H := by exact hP
  have hDm : va_D A (kW cI cJ cZ cV cR a C) := by exact hD
  refine wx_S (As := [.int (x)]) (rest := []) (wf := kW cI cJ cZ cV cR a) ⟨hx, hb, hml, hown, hts⟩ (x_X5_checkKeep l htr D cI cJ cZ cV cR a C hM x hbad H.size) (va_cwS 1 hts gX5_cursor_X5_checkKeep rfl rfl rfl (by decide +kernel) ⟨Nat.le_of_ble_eq_true rfl, Nat.le_of_ble_eq_true rfl⟩) hPm hK hDm hS hA hXE rfl hl.1 rfl (Nat.le_of_ble_eq_true rfl) dX5_cursor_20 ⟨Nat.le_of_ble_eq_true rfl, Nat.le_of_ble_eq_true rfl⟩ (fun u hu H locs ce q9 hP hD hS hce hcv hcl => ?_)
  exact vx_out (fun x h => (hout x h).elim) hlocks hce hcv hcl (xxc_eq u hu hP hK hD hS) hS.2.2 (Nat.le_refl _) (Nat.le_refl _)
def rmx_X5_cursor_o : Room := { frames := 7, cells := 1, slots := 6, locals := 102 }
set_option maxHeartbeats 4000000 in
set_option maxRecDepth 100000 in
/-- not open -/
theorem x_X5_cursor_o (l : Launch) (htr : l.stackTraces = false) (D : va_G) (cI cJ cZ cV cR : ClassId) (a : Nat → Nat) (C : CT) (hM : kOk C) (q hs se c9 g9 st9 r9 n9 : Nat) (f9 : Nat → Nat) (hV : isV (k_L C) (k_F C) q hs se c9 g9 st9 r9) (hI : isI cI (k_L C) (k_F C) hs n9 f9) (hc9 : c9 ≤ n9) (hn9 : n9 ≤ 300) (hg9 : g9 ≤ 300) (hst9 : st9 ≤ 2) (hr9 : r9 ≤ 60) (hf9 : ∀ j, f9 j < 300) (i : Nat) (hi9 : i < k_vc C) (hq9 : k_vq C i = some q) (kd : Nat) (sd : Int64) (m9 k9 kp9 : Nat) (hkd : kd < 3) (hm9 : 1 ≤ m9) (hm8 : m9 ≤ 8) (hk9 : k9 < m9) (hkp9 : 1 ≤ kp9) (hkp8 : kp9 ≤ 1000) (hbad : st9 ≠ 0) (sz : Nat) : vx_Met l yX5_cursor wsX5_cursor rmx_X5_cursor_o (va_Pc [.ref (a 0), .int (nI (i)), .int (nI (kd)), .long (sd), .int (nI (m9)), .int (nI (k9)), .int (nI (kp9))] (GX D (tyK cI cJ cZ cV cR) (kW cI cJ cZ cV cR a C) sz)) xNo (xXC D (tyK cI cJ cZ cV cR) "java/lang/IllegalStateException" (fun u : CT => u = C) (kW cI cJ cZ cV cR a) (va_A (kW cI cJ cZ cV cR a C) sz)) 1 6 (va_A (kW cI cJ cZ cV cR a C) sz) := by
  obtain ⟨hn, hfn, hsn, hvc, hrc, hpc, hnw, hkc, h_home, h_kin, h_alv, h_srs, h_row, h_sp, h_kis, h_pg⟩ := id hM
  refine vx_ofW (cc := cX5_cursor) (maxL := 10) (ret := (some .int)) (by decide) rfl ?_
  intro p e s m args below meth c s₁ B hml hout hv
  obtain ⟨rfl, ⟨hsz, hP, hK, hD0⟩, hXE⟩ := hv
  have hx := B.exec
  have hb := B.bytes
  have hr := B.returns
  have hts := atoms_spec (ws := wsX5_cursor) B.pre
  have hown : s.vm.findClass RX5 = some m.cls := findClass_of_methodNamed B.named
  have hlocks := B.notSynchronized
  subst hsz
  have hD := hD0.self (sz := s.heap.size)
  generalize hAe : va_A (kW cI cJ cZ cV cR a C) s.heap.size = A at hD hXE ⊢
  have hA : ∀ q : Nat, s.heap.size ≤ q → A q := fun q h => by rw [← hAe]; exact Or.inr h
  have hS : va_S A s.heap s.heap [] := va_S.rf
  have hP : va_P D vwCl (kX cI cJ cZ cV cR a (k_ra C) (k_rb C) (k_vc C) (k_rc C) (k_pc C) (k_nw C) (k_n C) (k_fn C) (k_sn C) (k_kc C) (k_grp C) (k_key C) (k_srt C) (k_wt C) (k_home C) (k_drp C) (k_met C) (k_kin C) (k_alv C) (k_srs C) (k_row C) (k_sp C) (k_kis C) (k_pg C) (k_vq C) (k_rq C) (k_L C) (k_F C)) s.heap := hP
  have hD : va_D A (kX cI cJ cZ cV cR a (k_ra C) (k_rb C) (k_vc C) (k_rc C) (k_pc C) (k_nw C) (k_n C) (k_fn C) (k_sn C) (k_kc C) (k_grp C) (k_key C) (k_srt C) (k_wt C) (k_home C) (k_drp C) (k_met C) (k_kin C) (k_alv C) (k_srs C) (k_row C) (k_sp C) (k_kis C) (k_pg C) (k_vq C) (k_rq C) (k_L C) (k_F C)) := hD
  have hl := lv_entry ([.ref (a 0), .int (nI (i)), .int (nI (kd)), .long (sd), .int (nI (m9)), .int (nI (k9)), .int (nI (kp9))]) (n := 10) (Nat.le_of_ble_eq_true rfl)
  rw [lg_entry_eq]
  generalize (lg_sl ([.ref (a 0), .int (nI (i)), .int (nI (kd)), .long (sd), .int (nI (m9)), .int (nI (k9)), .int (nI (kp9))]) ++ List.replicate (10 - (lg_sl ([.ref (a 0), .int (nI (i)), .int (nI (kd)), .long (sd), .int (nI (m9)), .int (nI (k9)), .int (nI (kp9))])).length) Slot.unset).toArray = ls at hl ⊢
  have hl : lv_has ls 10 [(0, .ref (a 0)), (1, .int (nI (i))), (2, .int (nI (kd))), (3, .long (sd)), (5, .int (nI (m9))), (6, .int (nI (k9))), (7, .int (nI (kp9)))] := hl
  refine lv_aload_n hx hb dX5_cursor_0 rfl (lv_at hl 0 rfl) ?_
  refine lv_iload_n hx hb dX5_cursor_1 rfl (lv_at hl 1 rfl) ?_
  have hPm : va_P D vwCl (kW cI cJ cZ cV cR a C) s.heap := by exact hP
  have hDm : va_D A (kW cI cJ cZ cV cR a C) := by exact hD
  refine wc_VWr (As := [.int (nI (i))]) (rest := []) (ra := Prod.fst) (wf := fun u => kW cI cJ cZ cV cR a u.2) ⟨hx, hb, hml, hown, hts⟩ (c_X5_viewAt l D cI cJ cZ cV cR a C hM (i) (q) (by omega) hq9 s.heap.size) (cwV 1 hts gX5_cursor_X5_viewAt rfl rfl rfl (by decide +kernel) ⟨Nat.le_of_ble_eq_true rfl, Nat.le_of_ble_eq_true rfl⟩) hPm hK hDm hS hA 0 rfl rfl rfl hl.1 rfl (Nat.le_of_ble_eq_true rfl) dX5_cursor_2 ⟨Nat.le_of_ble_eq_true rfl, Nat.le_of_ble_eq_true rfl⟩ (fun u1 hq1 H locs hP hD hS => ?_)
  have hu1 := hq1
  subst hu1
  have hP : va_P D vwCl (kX cI cJ cZ cV cR a (k_ra C) (k_rb C) (k_vc C) (k_rc C) (k_pc C) (k_nw C) (k_n C) (k_fn C) (k_sn C) (k_kc C) (k_grp C) (k_key C) (k_srt C) (k_wt C) (k_home C) (k_drp C) (k_met C) (k_kin C) (k_alv C) (k_srs C) (k_row C) (k_sp C) (k_kis C) (k_pg C) (k_vq C) (k_rq C) (k_L C) (k_F C)) H := hP
  have hD : va_D A (kX cI cJ cZ cV cR a (k_ra C) (k_rb C) (k_vc C) (k_rc C) (k_pc C) (k_nw C) (k_n C) (k_fn C) (k_sn C) (k_kc C) (k_grp C) (k_key C) (k_srt C) (k_wt C) (k_home C) (k_drp C) (k_met C) (k_kin C) (k_alv C) (k_srs C) (k_row C) (k_sp C) (k_kis C) (k_pg C) (k_vq C) (k_rq C) (k_L C) (k_F C)) := hD
  refine lv_astore (lv' := [(8, .ref (q)), (0, .ref (a 0)), (1, .int (nI (i))), (2, .int (nI (kd))), (3, .long (sd)), (5, .int (nI (m9))), (6, .int (nI (k9))), (7, .int (nI (kp9)))]) hx hb dX5_cursor_5 hl (by decide) rfl (fun ls hl => ?_)
  refine lv_iload_n hx hb dX5_cursor_7 rfl (lv_at hl 3 rfl) ?_
  have hPm : va_P D vwCl (kW cI cJ cZ cV cR a C) H := by exact hP
  have hDm : va_D A (kW cI cJ cZ cV cR a C) := by exact hD
  refine wc_SWv (As := [.int (nI (kd))]) (rest := []) (wf := kW cI cJ cZ cV cR a) ⟨hx, hb, hml, hown, hts⟩ (c_X5_checkKind l D cI cJ cZ cV cR a C hM (kd) (by omega) H.size) (va_cwS 1 hts gX5_cursor_X5_checkKind rfl rfl rfl (by decide +kernel) ⟨Nat.le_of_ble_eq_true rfl, Nat.le_of_ble_eq_true rfl⟩) hPm hK hDm hS hA rfl hl.1 rfl (Nat.le_of_ble_eq_true rfl) dX5_cursor_8 ⟨Nat.le_of_ble_eq_true rfl, Nat.le_of_ble_eq_true rfl⟩ (fun u2 hq2 H locs hP hD hS => ?_)
  have hu2 := hq2.symm
  subst hu2
  have hP : va_P D vwCl (kX cI cJ cZ cV cR a (k_ra C) (k_rb C) (k_vc C) (k_rc C) (k_pc C) (k_nw C) (k_n C) (k_fn C) (k_sn C) (k_kc C) (k_grp C) (k_key C) (k_srt C) (k_wt C) (k_home C) (k_drp C) (k_met C) (k_kin C) (k_alv C) (k_srs C) (k_row C) (k_sp C) (k_kis C) (k_pg C) (k_vq C) (k_rq C) (k_L C) (k_F C)) H := hP
  have hD : va_D A (kX cI cJ cZ cV cR a (k_ra C) (k_rb C) (k_vc C) (k_rc C) (k_pc C) (k_nw C) (k_n C) (k_fn C) (k_sn C) (k_kc C) (k_grp C) (k_key C) (k_srt C) (k_wt C) (k_home C) (k_drp C) (k_met C) (k_kin C) (k_alv C) (k_srs C) (k_row C) (k_sp C) (k_kis C) (k_pg C) (k_vq C) (k_rq C) (k_L C) (k_F C)) := hD
  refine lv_iload hx hb dX5_cursor_11 (lv_at hl 5 rfl) ?_
  refine lv_iload hx hb dX5_cursor_13 (lv_at hl 6 rfl) ?_
  have hPm : va_P D vwCl (kW cI cJ cZ cV cR a C) H := by exact hP
  have hDm : va_D A (kW cI cJ cZ cV cR a C) := by exact hD
  refine wc_SWv (As := [.int (nI (m9)), .int (nI (k9))]) (rest := []) (wf := kW cI cJ cZ cV cR a) ⟨hx, hb, hml, hown, hts⟩ (c_X5_checkSlice l D cI cJ cZ cV cR a C hM (m9) (k9) (by omega) (by omega) (by omega) H.size) (va_cwS 2 hts gX5_cursor_X5_checkSlice rfl rfl rfl (by decide +kernel) ⟨Nat.le_of_ble_eq_true rfl, Nat.le_of_ble_eq_true rfl⟩) hPm hK hDm hS hA rfl hl.1 rfl (Nat.le_of_ble_eq_true rfl) dX5_cursor_15 ⟨Nat.le_of_ble_eq_true rfl, Nat.le_of_ble_eq_true rfl⟩ (fun u3 hq3 H locs hP hD hS => ?_)
  have hu3 := hq3.symm
  subst hu3
  have hP : va_P D vwCl (kX cI cJ cZ cV cR a (k_ra C) (k_rb C) (k_vc C) (k_rc C) (k_pc C) (k_nw C) (k_n C) (k_fn C) (k_sn C) (k_kc C) (k_grp C) (k_key C) (k_srt C) (k_wt C) (k_home C) (k_drp C) (k_met C) (k_kin C) (k_alv C) (k_srs C) (k_row C) (k_sp C) (k_kis C) (k_pg C) (k_vq C) (k_rq C) (k_L C) (k_F C)) H := hP
  have hD : va_D A (kX cI cJ cZ cV cR a (k_ra C) (k_rb C) (k_vc C) (k_rc C) (k_pc C) (k_nw C) (k_n C) (k_fn C) (k_sn C) (k_kc C) (k_grp C) (k_key C) (k_srt C) (k_wt C) (k_home C) (k_drp C) (k_met C) (k_kin C) (k_alv C) (k_srs C) (k_row C) (k_sp C) (k_kis C) (k_pg C) (k_vq C) (k_rq C) (k_L C) (k_F C)) := hD
  refine lv_iload hx hb dX5_cursor_18 (lv_at hl 7 rfl) ?_
  have hPm : va_P D vwCl (kW cI cJ cZ cV cR a C) H := by exact hP
  have hDm : va_D A (kW cI cJ cZ cV cR a C) := by exact hD
  refine wc_SWv (As := [.int (nI (kp9))]) (rest := []) (wf := kW cI cJ cZ cV cR a) ⟨hx, hb, hml, hown, hts⟩ (c_X5_checkKeep l D cI cJ cZ cV cR a C hM (kp9) (by omega) (by omega) H.size) (va_cwS 1 hts gX5_cursor_X5_checkKeep rfl rfl rfl (by decide +kernel) ⟨Nat.le_of_ble_eq_true rfl, Nat.le_of_ble_eq_true rfl⟩) hPm hK hDm hS hA rfl hl.1 rfl (Nat.le_of_ble_eq_true rfl) dX5_cursor_20 ⟨Nat.le_of_ble_eq_true rfl, Nat.le_of_ble_eq_true rfl⟩ (fun u4 hq4 H locs hP hD hS => ?_)
  have hu4 := hq4.symm
  subst hu4
  have hP : va_P D vwCl (kX cI cJ cZ cV cR a (k_ra C) (k_rb C) (k_vc C) (k_rc C) (k_pc C) (k_nw C) (k_n C) (k_fn C) (k_sn C) (k_kc C) (k_grp C) (k_key C) (k_srt C) (k_wt C) (k_home C) (k_drp C) (k_met C) (k_kin C) (k_alv C) (k_srs C) (k_row C) (k_sp C) (k_kis C) (k_pg C) (k_vq C) (k_rq C) (k_L C) (k_F C)) H := hP
  have hD : va_D A (kX cI cJ cZ cV cR a (k_ra C) (k_rb C) (k_vc C) (k_rc C) (k_pc C) (k_nw C) (k_n C) (k_fn C) (k_sn C) (k_kc C) (k_grp C) (k_key C) (k_srt C) (k_wt C) (k_home C) (k_drp C) (k_met C) (k_kin C) (k_alv C) (k_srs C) (k_row C) (k_sp C) (k_kis C) (k_pg C) (k_vq C) (k_rq C) (k_L C) (k_F C)) := hD
  refine lv_aload hx hb dX5_cursor_23 (lv_at hl 0 rfl) ?_
  have hPm : va_P D vwCl (kW cI cJ cZ cV cR a C) H := by exact hP
  have hDm : va_D A (kW cI cJ cZ cV cR a C) := by exact hD
  refine wx_S (As := [.ref (q)]) (rest := []) (wf := kW cI cJ cZ cV cR a) ⟨hx, hb, hml, hown, hts⟩ (x_X5_checkOpen l htr D cI cJ cZ cV cR a C hM q hs se c9 g9 st9 r9 hV (by omega) hg9 hst9 hr9 hbad H.size) (va_cwS 1 hts gX5_cursor_X5_checkOpen rfl rfl rfl (by decide +kernel) ⟨Nat.le_of_ble_eq_true rfl, Nat.le_of_ble_eq_true rfl⟩) hPm hK hDm hS hA hXE rfl hl.1 rfl (Nat.le_of_ble_eq_true rfl) dX5_cursor_25 ⟨Nat.le_of_ble_eq_true rfl, Nat.le_of_ble_eq_true rfl⟩ (fun u hu H locs ce q9 hP hD hS hce hcv hcl => ?_)
  exact vx_out (fun x h => (hout x h).elim) hlocks hce hcv hcl (xxc_eq u hu hP hK hD hS) hS.2.2 (Nat.le_refl _) (Nat.le_refl _)
