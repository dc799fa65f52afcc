/-! what the steps leave as it was -/
theorem ldM_ra {C : CT} {f : Nat → Nat} {n : Nat} : k_ra (ldM C f n) = k_ra C := by unfold ldM; exact mkC_ra
theorem ldM_rb {C : CT} {f : Nat → Nat} {n : Nat} : k_rb (ldM C f n) = k_rb C := by unfold ldM; exact mkC_rb
theorem ldM_vc {C : CT} {f : Nat → Nat} {n : Nat} : k_vc (ldM C f n) = k_vc C := by unfold ldM; exact mkC_vc
theorem ldM_rc {C : CT} {f : Nat → Nat} {n : Nat} : k_rc (ldM C f n) = k_rc C := by unfold ldM; exact mkC_rc
theorem ldM_pc {C : CT} {f : Nat → Nat} {n : Nat} : k_pc (ldM C f n) = k_pc C := by unfold ldM; exact mkC_pc
theorem ldM_nw {C : CT} {f : Nat → Nat} {n : Nat} : k_nw (ldM C f n) = k_nw C := by unfold ldM; exact mkC_nw
theorem ldM_n {C : CT} {f : Nat → Nat} {n : Nat} : k_n (ldM C f n) = k_n C := by unfold ldM; exact mkC_n
theorem ldM_fn {C : CT} {f : Nat → Nat} {n : Nat} : k_fn (ldM C f n) = k_fn C := by unfold ldM; exact mkC_fn
theorem ldM_sn {C : CT} {f : Nat → Nat} {n : Nat} : k_sn (ldM C f n) = k_sn C := by unfold ldM; exact mkC_sn
theorem ldM_grp {C : CT} {f : Nat → Nat} {n : Nat} : k_grp (ldM C f n) = k_grp C := by unfold ldM; exact mkC_grp
theorem ldM_key {C : CT} {f : Nat → Nat} {n : Nat} : k_key (ldM C f n) = k_key C := by unfold ldM; exact mkC_key
theorem ldM_srt {C : CT} {f : Nat → Nat} {n : Nat} : k_srt (ldM C f n) = k_srt C := by unfold ldM; exact mkC_srt
theorem ldM_wt {C : CT} {f : Nat → Nat} {n : Nat} : k_wt (ldM C f n) = k_wt C := by unfold ldM; exact mkC_wt
theorem ldM_home {C : CT} {f : Nat → Nat} {n : Nat} : k_home (ldM C f n) = k_home C := by unfold ldM; exact mkC_home
theorem ldM_drp {C : CT} {f : Nat → Nat} {n : Nat} : k_drp (ldM C f n) = k_drp C := by unfold ldM; exact mkC_drp
theorem ldM_met {C : CT} {f : Nat → Nat} {n : Nat} : k_met (ldM C f n) = k_met C := by unfold ldM; exact mkC_met
theorem ldM_kin {C : CT} {f : Nat → Nat} {n : Nat} : k_kin (ldM C f n) = k_kin C := by unfold ldM; exact mkC_kin
theorem ldM_alv {C : CT} {f : Nat → Nat} {n : Nat} : k_alv (ldM C f n) = k_alv C := by unfold ldM; exact mkC_alv
theorem ldM_srs {C : CT} {f : Nat → Nat} {n : Nat} : k_srs (ldM C f n) = k_srs C := by unfold ldM; exact mkC_srs
theorem ldM_sp {C : CT} {f : Nat → Nat} {n : Nat} : k_sp (ldM C f n) = k_sp C := by unfold ldM; exact mkC_sp
theorem ldM_kis {C : CT} {f : Nat → Nat} {n : Nat} : k_kis (ldM C f n) = k_kis C := by unfold ldM; exact mkC_kis
theorem ldM_pg {C : CT} {f : Nat → Nat} {n : Nat} : k_pg (ldM C f n) = k_pg C := by unfold ldM; exact mkC_pg
theorem ldM_vq {C : CT} {f : Nat → Nat} {n : Nat} : k_vq (ldM C f n) = k_vq C := by unfold ldM; exact mkC_vq
theorem ldM_rq {C : CT} {f : Nat → Nat} {n : Nat} : k_rq (ldM C f n) = k_rq C := by unfold ldM; exact mkC_rq
theorem ldM_L {C : CT} {f : Nat → Nat} {n : Nat} : k_L (ldM C f n) = k_L C := by unfold ldM; exact mkC_L
theorem ldM_F {C : CT} {f : Nat → Nat} {n : Nat} : k_F (ldM C f n) = k_F C := by unfold ldM; exact mkC_F
theorem anM_vc {C : CT} {kd : Nat} {sd : Int64} : k_vc (anM C kd sd) = k_vc C := by unfold anM; exact mkC_vc
theorem anM_rc {C : CT} {kd : Nat} {sd : Int64} : k_rc (anM C kd sd) = k_rc C := by unfold anM; exact mkC_rc
theorem anM_pc {C : CT} {kd : Nat} {sd : Int64} : k_pc (anM C kd sd) = k_pc C := by unfold anM; exact mkC_pc
theorem anM_nw {C : CT} {kd : Nat} {sd : Int64} : k_nw (anM C kd sd) = k_nw C := by unfold anM; exact mkC_nw
theorem anM_n {C : CT} {kd : Nat} {sd : Int64} : k_n (anM C kd sd) = k_n C := by unfold anM; exact mkC_n
theorem anM_fn {C : CT} {kd : Nat} {sd : Int64} : k_fn (anM C kd sd) = k_fn C := by unfold anM; exact mkC_fn
theorem anM_sn {C : CT} {kd : Nat} {sd : Int64} : k_sn (anM C kd sd) = k_sn C := by unfold anM; exact mkC_sn
theorem anM_kc {C : CT} {kd : Nat} {sd : Int64} : k_kc (anM C kd sd) = k_kc C := by unfold anM; exact mkC_kc
theorem anM_grp {C : CT} {kd : Nat} {sd : Int64} : k_grp (anM C kd sd) = k_grp C := by unfold anM; exact mkC_grp
theorem anM_key {C : CT} {kd : Nat} {sd : Int64} : k_key (anM C kd sd) = k_key C := by unfold anM; exact mkC_key
theorem anM_srt {C : CT} {kd : Nat} {sd : Int64} : k_srt (anM C kd sd) = k_srt C := by unfold anM; exact mkC_srt
theorem anM_home {C : CT} {kd : Nat} {sd : Int64} : k_home (anM C kd sd) = k_home C := by unfold anM; exact mkC_home
theorem anM_drp {C : CT} {kd : Nat} {sd : Int64} : k_drp (anM C kd sd) = k_drp C := by unfold anM; exact mkC_drp
theorem anM_met {C : CT} {kd : Nat} {sd : Int64} : k_met (anM C kd sd) = k_met C := by unfold anM; exact mkC_met
theorem anM_kin {C : CT} {kd : Nat} {sd : Int64} : k_kin (anM C kd sd) = k_kin C := by unfold anM; exact mkC_kin
theorem anM_alv {C : CT} {kd : Nat} {sd : Int64} : k_alv (anM C kd sd) = k_alv C := by unfold anM; exact mkC_alv
theorem anM_srs {C : CT} {kd : Nat} {sd : Int64} : k_srs (anM C kd sd) = k_srs C := by unfold anM; exact mkC_srs
theorem anM_kis {C : CT} {kd : Nat} {sd : Int64} : k_kis (anM C kd sd) = k_kis C := by unfold anM; exact mkC_kis
theorem anM_pg {C : CT} {kd : Nat} {sd : Int64} : k_pg (anM C kd sd) = k_pg C := by unfold anM; exact mkC_pg
theorem anM_vq {C : CT} {kd : Nat} {sd : Int64} : k_vq (anM C kd sd) = k_vq C := by unfold anM; exact mkC_vq
theorem anM_rq {C : CT} {kd : Nat} {sd : Int64} : k_rq (anM C kd sd) = k_rq C := by unfold anM; exact mkC_rq
theorem anM_L {C : CT} {kd : Nat} {sd : Int64} : k_L (anM C kd sd) = k_L C := by unfold anM; exact mkC_L
theorem anM_F {C : CT} {kd : Nat} {sd : Int64} : k_F (anM C kd sd) = k_F C := by unfold anM; exact mkC_F
theorem ngM_ra {C : CT} {k9 : Nat} : k_ra (ngM C k9) = k_ra C := by unfold ngM; exact mkC_ra
theorem ngM_rb {C : CT} {k9 : Nat} : k_rb (ngM C k9) = k_rb C := by unfold ngM; exact mkC_rb
theorem ngM_vc {C : CT} {k9 : Nat} : k_vc (ngM C k9) = k_vc C := by unfold ngM; exact mkC_vc
theorem ngM_rc {C : CT} {k9 : Nat} : k_rc (ngM C k9) = k_rc C := by unfold ngM; exact mkC_rc
theorem ngM_pc {C : CT} {k9 : Nat} : k_pc (ngM C k9) = k_pc C := by unfold ngM; exact mkC_pc
theorem ngM_nw {C : CT} {k9 : Nat} : k_nw (ngM C k9) = k_nw C := by unfold ngM; exact mkC_nw
theorem ngM_n {C : CT} {k9 : Nat} : k_n (ngM C k9) = k_n C := by unfold ngM; exact mkC_n
theorem ngM_fn {C : CT} {k9 : Nat} : k_fn (ngM C k9) = k_fn C := by unfold ngM; exact mkC_fn
theorem ngM_sn {C : CT} {k9 : Nat} : k_sn (ngM C k9) = k_sn C := by unfold ngM; exact mkC_sn
theorem ngM_grp {C : CT} {k9 : Nat} : k_grp (ngM C k9) = k_grp C := by unfold ngM; exact mkC_grp
theorem ngM_key {C : CT} {k9 : Nat} : k_key (ngM C k9) = k_key C := by unfold ngM; exact mkC_key
theorem ngM_srt {C : CT} {k9 : Nat} : k_srt (ngM C k9) = k_srt C := by unfold ngM; exact mkC_srt
theorem ngM_wt {C : CT} {k9 : Nat} : k_wt (ngM C k9) = k_wt C := by unfold ngM; exact mkC_wt
theorem ngM_home {C : CT} {k9 : Nat} : k_home (ngM C k9) = k_home C := by unfold ngM; exact mkC_home
theorem ngM_drp {C : CT} {k9 : Nat} : k_drp (ngM C k9) = k_drp C := by unfold ngM; exact mkC_drp
theorem ngM_kin {C : CT} {k9 : Nat} : k_kin (ngM C k9) = k_kin C := by unfold ngM; exact mkC_kin
theorem ngM_alv {C : CT} {k9 : Nat} : k_alv (ngM C k9) = k_alv C := by unfold ngM; exact mkC_alv
theorem ngM_srs {C : CT} {k9 : Nat} : k_srs (ngM C k9) = k_srs C := by unfold ngM; exact mkC_srs
theorem ngM_sp {C : CT} {k9 : Nat} : k_sp (ngM C k9) = k_sp C := by unfold ngM; exact mkC_sp
theorem ngM_pg {C : CT} {k9 : Nat} : k_pg (ngM C k9) = k_pg C := by unfold ngM; exact mkC_pg
theorem ngM_vq {C : CT} {k9 : Nat} : k_vq (ngM C k9) = k_vq C := by unfold ngM; exact mkC_vq
theorem ngM_rq {C : CT} {k9 : Nat} : k_rq (ngM C k9) = k_rq C := by unfold ngM; exact mkC_rq
theorem ngM_L {C : CT} {k9 : Nat} : k_L (ngM C k9) = k_L C := by unfold ngM; exact mkC_L
theorem ngM_F {C : CT} {k9 : Nat} : k_F (ngM C k9) = k_F C := by unfold ngM; exact mkC_F
theorem nsM_ra {C : CT} {mn wh : Nat} : k_ra (nsM C mn wh) = k_ra C := by unfold nsM; exact mkC_ra
theorem nsM_rb {C : CT} {mn wh : Nat} : k_rb (nsM C mn wh) = k_rb C := by unfold nsM; exact mkC_rb
theorem nsM_vc {C : CT} {mn wh : Nat} : k_vc (nsM C mn wh) = k_vc C := by unfold nsM; exact mkC_vc
theorem nsM_rc {C : CT} {mn wh : Nat} : k_rc (nsM C mn wh) = k_rc C := by unfold nsM; exact mkC_rc
theorem nsM_pc {C : CT} {mn wh : Nat} : k_pc (nsM C mn wh) = k_pc C := by unfold nsM; exact mkC_pc
theorem nsM_nw {C : CT} {mn wh : Nat} : k_nw (nsM C mn wh) = k_nw C := by unfold nsM; exact mkC_nw
theorem nsM_n {C : CT} {mn wh : Nat} : k_n (nsM C mn wh) = k_n C := by unfold nsM; exact mkC_n
theorem nsM_fn {C : CT} {mn wh : Nat} : k_fn (nsM C mn wh) = k_fn C := by unfold nsM; exact mkC_fn
theorem nsM_sn {C : CT} {mn wh : Nat} : k_sn (nsM C mn wh) = k_sn C := by unfold nsM; exact mkC_sn
theorem nsM_grp {C : CT} {mn wh : Nat} : k_grp (nsM C mn wh) = k_grp C := by unfold nsM; exact mkC_grp
theorem nsM_key {C : CT} {mn wh : Nat} : k_key (nsM C mn wh) = k_key C := by unfold nsM; exact mkC_key
theorem nsM_srt {C : CT} {mn wh : Nat} : k_srt (nsM C mn wh) = k_srt C := by unfold nsM; exact mkC_srt
theorem nsM_wt {C : CT} {mn wh : Nat} : k_wt (nsM C mn wh) = k_wt C := by unfold nsM; exact mkC_wt
theorem nsM_home {C : CT} {mn wh : Nat} : k_home (nsM C mn wh) = k_home C := by unfold nsM; exact mkC_home
theorem nsM_drp {C : CT} {mn wh : Nat} : k_drp (nsM C mn wh) = k_drp C := by unfold nsM; exact mkC_drp
theorem nsM_met {C : CT} {mn wh : Nat} : k_met (nsM C mn wh) = k_met C := by unfold nsM; exact mkC_met
theorem nsM_kin {C : CT} {mn wh : Nat} : k_kin (nsM C mn wh) = k_kin C := by unfold nsM; exact mkC_kin
theorem nsM_alv {C : CT} {mn wh : Nat} : k_alv (nsM C mn wh) = k_alv C := by unfold nsM; exact mkC_alv
theorem nsM_srs {C : CT} {mn wh : Nat} : k_srs (nsM C mn wh) = k_srs C := by unfold nsM; exact mkC_srs
theorem nsM_sp {C : CT} {mn wh : Nat} : k_sp (nsM C mn wh) = k_sp C := by unfold nsM; exact mkC_sp
theorem nsM_kis {C : CT} {mn wh : Nat} : k_kis (nsM C mn wh) = k_kis C := by unfold nsM; exact mkC_kis
theorem nsM_pg {C : CT} {mn wh : Nat} : k_pg (nsM C mn wh) = k_pg C := by unfold nsM; exact mkC_pg
theorem nsM_vq {C : CT} {mn wh : Nat} : k_vq (nsM C mn wh) = k_vq C := by unfold nsM; exact mkC_vq
theorem nsM_rq {C : CT} {mn wh : Nat} : k_rq (nsM C mn wh) = k_rq C := by unfold nsM; exact mkC_rq
theorem nsM_L {C : CT} {mn wh : Nat} : k_L (nsM C mn wh) = k_L C := by unfold nsM; exact mkC_L
theorem nsM_F {C : CT} {mn wh : Nat} : k_F (nsM C mn wh) = k_F C := by unfold nsM; exact mkC_F
theorem rkM_vc {C : CT} {f : Nat → Nat} {n kd : Nat} {sd : Int64} : k_vc (rkM C f n kd sd) = k_vc C := by unfold rkM; rw [anM_vc, ldM_vc]
theorem rkM_rc {C : CT} {f : Nat → Nat} {n kd : Nat} {sd : Int64} : k_rc (rkM C f n kd sd) = k_rc C := by unfold rkM; rw [anM_rc, ldM_rc]
theorem rkM_pc {C : CT} {f : Nat → Nat} {n kd : Nat} {sd : Int64} : k_pc (rkM C f n kd sd) = k_pc C := by unfold rkM; rw [anM_pc, ldM_pc]
theorem rkM_nw {C : CT} {f : Nat → Nat} {n kd : Nat} {sd : Int64} : k_nw (rkM C f n kd sd) = k_nw C := by unfold rkM; rw [anM_nw, ldM_nw]
theorem rkM_n {C : CT} {f : Nat → Nat} {n kd : Nat} {sd : Int64} : k_n (rkM C f n kd sd) = k_n C := by unfold rkM; rw [anM_n, ldM_n]
theorem rkM_fn {C : CT} {f : Nat → Nat} {n kd : Nat} {sd : Int64} : k_fn (rkM C f n kd sd) = k_fn C := by unfold rkM; rw [anM_fn, ldM_fn]
theorem rkM_sn {C : CT} {f : Nat → Nat} {n kd : Nat} {sd : Int64} : k_sn (rkM C f n kd sd) = k_sn C := by unfold rkM; rw [anM_sn, ldM_sn]
theorem rkM_grp {C : CT} {f : Nat → Nat} {n kd : Nat} {sd : Int64} : k_grp (rkM C f n kd sd) = k_grp C := by unfold rkM; rw [anM_grp, ldM_grp]
theorem rkM_key {C : CT} {f : Nat → Nat} {n kd : Nat} {sd : Int64} : k_key (rkM C f n kd sd) = k_key C := by unfold rkM; rw [anM_key, ldM_key]
theorem rkM_srt {C : CT} {f : Nat → Nat} {n kd : Nat} {sd : Int64} : k_srt (rkM C f n kd sd) = k_srt C := by unfold rkM; rw [anM_srt, ldM_srt]
theorem rkM_home {C : CT} {f : Nat → Nat} {n kd : Nat} {sd : Int64} : k_home (rkM C f n kd sd) = k_home C := by unfold rkM; rw [anM_home, ldM_home]
theorem rkM_drp {C : CT} {f : Nat → Nat} {n kd : Nat} {sd : Int64} : k_drp (rkM C f n kd sd) = k_drp C := by unfold rkM; rw [anM_drp, ldM_drp]
theorem rkM_met {C : CT} {f : Nat → Nat} {n kd : Nat} {sd : Int64} : k_met (rkM C f n kd sd) = k_met C := by unfold rkM; rw [anM_met, ldM_met]
theorem rkM_kin {C : CT} {f : Nat → Nat} {n kd : Nat} {sd : Int64} : k_kin (rkM C f n kd sd) = k_kin C := by unfold rkM; rw [anM_kin, ldM_kin]
theorem rkM_alv {C : CT} {f : Nat → Nat} {n kd : Nat} {sd : Int64} : k_alv (rkM C f n kd sd) = k_alv C := by unfold rkM; rw [anM_alv, ldM_alv]
theorem rkM_srs {C : CT} {f : Nat → Nat} {n kd : Nat} {sd : Int64} : k_srs (rkM C f n kd sd) = k_srs C := by unfold rkM; rw [anM_srs, ldM_srs]
theorem rkM_kis {C : CT} {f : Nat → Nat} {n kd : Nat} {sd : Int64} : k_kis (rkM C f n kd sd) = k_kis C := by unfold rkM; rw [anM_kis, ldM_kis]
theorem rkM_pg {C : CT} {f : Nat → Nat} {n kd : Nat} {sd : Int64} : k_pg (rkM C f n kd sd) = k_pg C := by unfold rkM; rw [anM_pg, ldM_pg]
theorem rkM_vq {C : CT} {f : Nat → Nat} {n kd : Nat} {sd : Int64} : k_vq (rkM C f n kd sd) = k_vq C := by unfold rkM; rw [anM_vq, ldM_vq]
theorem rkM_rq {C : CT} {f : Nat → Nat} {n kd : Nat} {sd : Int64} : k_rq (rkM C f n kd sd) = k_rq C := by unfold rkM; rw [anM_rq, ldM_rq]
theorem rkM_L {C : CT} {f : Nat → Nat} {n kd : Nat} {sd : Int64} : k_L (rkM C f n kd sd) = k_L C := by unfold rkM; rw [anM_L, ldM_L]
theorem rkM_F {C : CT} {f : Nat → Nat} {n kd : Nat} {sd : Int64} : k_F (rkM C f n kd sd) = k_F C := by unfold rkM; rw [anM_F, ldM_F]
def rm_X5_letGo : Room := { frames := 3, cells := 0, slots := 0, locals := 65 }
set_option maxHeartbeats 4000000 in
set_option maxRecDepth 100000 in
/-- a view is let go -/
theorem c_X5_letGo (l : Launch) (D : va_G) (cI cJ cZ cV cR : ClassId) (a : Nat → Nat) (C : CT) (hM : kOk C) (q hs se c9 g9 st9 r9 sn9 : Nat) (sf : Nat → Bool) (hV : isV (k_L C) (k_F C) q hs se c9 g9 st9 r9) (hc9 : c9 ≤ 300) (hg9 : g9 ≤ 300) (hst9 : st9 ≤ 2) (hr9 : r9 ≤ 60) (hZ : isZ cZ (k_L C) (k_F C) se sn9 sf) (hsn9 : sn9 ≤ 40) (hpos : st9 ≠ 2 → ∀ i, i < sn9 → sf i = true → 0 < k_srs C i) (i : Nat) (hi9 : i < k_vc C) (hq9 : k_vq C i = some q) (ho9 : st9 = 0) (sz : Nat) : Met l yX5_letGo wsX5_letGo rm_X5_letGo (va_Pc [.ref (a 0), .int (nI (i))] (GW D (tyK cI cJ cZ cV cR) (kW cI cJ cZ cV cR a C) sz)) (va_Qi (fun rr u => rr = nI (eiR (lgoM C q hs se c9 g9 r9) 1 r9 sn9 sf) ∧ u = eiM (lgoM C q hs se c9 g9 r9) q hs se c9 g9 1 r9 sn9 sf) (fun u => GB D (tyK cI cJ cZ cV cR) (va_A (kW cI cJ cZ cV cR a C) sz) (kW cI cJ cZ cV cR a u)) (va_A (kW cI cJ cZ cV cR a C) sz)) 0 0 (va_A (kW cI cJ cZ cV cR a C) sz) := by
  obtain ⟨hn, hfn, hsn, hvc, hrc, hpc, hnw, hkc, h_home, h_kin, h_alv, h_srs, h_row, h_sp, h_kis, h_pg⟩ := id hM
  refine Met.ofW (cc := cX5_letGo) (maxL := 3) (ret := (some .int)) (by decide) rfl ?_
  intro p e s m args below meth c s₁ B hml hv
  obtain ⟨rfl, hsz, hP, hK, hD0⟩ := hv
  have hx := B.exec
  have hb := B.bytes
  have hr := B.returns
  have hts := atoms_spec (ws := wsX5_letGo) B.pre
  have hown : s.vm.findClass RX5 = some m.cls := findClass_of_methodNamed B.named
  have hlocks := B.notSynchronized
  subst hsz
  have hD := hD0.self (sz := s.heap.size)
  generalize hAe : va_A (kW cI cJ cZ cV cR a C) s.heap.size = A at hD ⊢
  have hA : ∀ q : Nat, s.heap.size ≤ q → A q := fun q h => by rw [← hAe]; exact Or.inr h
  have hS : va_S A s.heap s.heap [] := va_S.rf
  have hP : va_P D vwCl (kX cI cJ cZ cV cR a (k_ra C) (k_rb C) (k_vc C) (k_rc C) (k_pc C) (k_nw C) (k_n C) (k_fn C) (k_sn C) (k_kc C) (k_grp C) (k_key C) (k_srt C) (k_wt C) (k_home C) (k_drp C) (k_met C) (k_kin C) (k_alv C) (k_srs C) (k_row C) (k_sp C) (k_kis C) (k_pg C) (k_vq C) (k_rq C) (k_L C) (k_F C)) s.heap := hP
  have hD : va_D A (kX cI cJ cZ cV cR a (k_ra C) (k_rb C) (k_vc C) (k_rc C) (k_pc C) (k_nw C) (k_n C) (k_fn C) (k_sn C) (k_kc C) (k_grp C) (k_key C) (k_srt C) (k_wt C) (k_home C) (k_drp C) (k_met C) (k_kin C) (k_alv C) (k_srs C) (k_row C) (k_sp C) (k_kis C) (k_pg C) (k_vq C) (k_rq C) (k_L C) (k_F C)) := hD
  have hiX4 : ∀ w ∈ wsX40, w ∈ wsX5_letGo := by decide +kernel
  have hf0 := hts (.fieldLink RX5 157 "GroupCursors$View" "state" "I") (by decide +kernel)
  have hl := lv_entry ([.ref (a 0), .int (nI (i))]) (n := 3) (Nat.le_of_ble_eq_true rfl)
  rw [lg_entry_eq]
  generalize (lg_sl ([.ref (a 0), .int (nI (i))]) ++ List.replicate (3 - (lg_sl ([.ref (a 0), .int (nI (i))])).length) Slot.unset).toArray = ls at hl ⊢
  have hl : lv_has ls 3 [(0, .ref (a 0)), (1, .int (nI (i)))] := hl
  refine lv_aload_n hx hb dX5_letGo_0 rfl (lv_at hl 0 rfl) ?_
  refine lv_iload_n hx hb dX5_letGo_1 rfl (lv_at hl 1 rfl) ?_
  have hPm : va_P D vwCl (kW cI cJ cZ cV cR a C) s.heap := by exact hP
  have hDm : va_D A (kW cI cJ cZ cV cR a C) := by exact hD
  refine wc_VWr (As := [.int (nI (i))]) (rest := []) (ra := Prod.fst) (wf := fun u => kW cI cJ cZ cV cR a u.2) ⟨hx, hb, hml, hown, hts⟩ (c_X5_viewAt l D cI cJ cZ cV cR a C hM (i) (q) (by omega) hq9 s.heap.size) (cwV 1 hts gX5_letGo_X5_viewAt rfl rfl rfl (by decide +kernel) ⟨Nat.le_of_ble_eq_true rfl, Nat.le_of_ble_eq_true rfl⟩) hPm hK hDm hS hA 0 rfl rfl rfl hl.1 rfl (Nat.le_of_ble_eq_true rfl) dX5_letGo_2 ⟨Nat.le_of_ble_eq_true rfl, Nat.le_of_ble_eq_true rfl⟩ (fun u1 hq1 H locs hP hD hS => ?_)
  have hu1 := hq1
  subst hu1
  have hP : va_P D vwCl (kX cI cJ cZ cV cR a (k_ra C) (k_rb C) (k_vc C) (k_rc C) (k_pc C) (k_nw C) (k_n C) (k_fn C) (k_sn C) (k_kc C) (k_grp C) (k_key C) (k_srt C) (k_wt C) (k_home C) (k_drp C) (k_met C) (k_kin C) (k_alv C) (k_srs C) (k_row C) (k_sp C) (k_kis C) (k_pg C) (k_vq C) (k_rq C) (k_L C) (k_F C)) H := hP
  have hD : va_D A (kX cI cJ cZ cV cR a (k_ra C) (k_rb C) (k_vc C) (k_rc C) (k_pc C) (k_nw C) (k_n C) (k_fn C) (k_sn C) (k_kc C) (k_grp C) (k_key C) (k_srt C) (k_wt C) (k_home C) (k_drp C) (k_met C) (k_kin C) (k_alv C) (k_srs C) (k_row C) (k_sp C) (k_kis C) (k_pg C) (k_vq C) (k_rq C) (k_L C) (k_F C)) := hD
  refine lv_astore_n (lv' := [(2, .ref (q)), (0, .ref (a 0)), (1, .int (nI (i)))]) hx hb dX5_letGo_5 rfl hl (by decide) rfl (fun ls hl => ?_)
  refine lv_aload_n hx hb dX5_letGo_6 rfl (lv_at hl 0 rfl) ?_
  have hPm : va_P D vwCl (kW cI cJ cZ cV cR a C) H := by exact hP
  have hDm : va_D A (kW cI cJ cZ cV cR a C) := by exact hD
  refine wc_SWv (As := [.ref (q)]) (rest := []) (wf := kW cI cJ cZ cV cR a) ⟨hx, hb, hml, hown, hts⟩ (c_X5_checkOpen l D cI cJ cZ cV cR a C hM (q) (hs) (se) (c9) (g9) (st9) (r9) hV (by omega) (by omega) (by omega) (by omega) ho9 H.size) (va_cwS 1 hts gX5_letGo_X5_checkOpen rfl rfl rfl (by decide +kernel) ⟨Nat.le_of_ble_eq_true rfl, Nat.le_of_ble_eq_true rfl⟩) hPm hK hDm hS hA rfl hl.1 rfl (Nat.le_of_ble_eq_true rfl) dX5_letGo_7 ⟨Nat.le_of_ble_eq_true rfl, Nat.le_of_ble_eq_true rfl⟩ (fun u2 hq2 H locs hP hD hS => ?_)
  have hu2 := hq2.symm
  subst hu2
  have hP : va_P D vwCl (kX cI cJ cZ cV cR a (k_ra C) (k_rb C) (k_vc C) (k_rc C) (k_pc C) (k_nw C) (k_n C) (k_fn C) (k_sn C) (k_kc C) (k_grp C) (k_key C) (k_srt C) (k_wt C) (k_home C) (k_drp C) (k_met C) (k_kin C) (k_alv C) (k_srs C) (k_row C) (k_sp C) (k_kis C) (k_pg C) (k_vq C) (k_rq C) (k_L C) (k_F C)) H := hP
  have hD : va_D A (kX cI cJ cZ cV cR a (k_ra C) (k_rb C) (k_vc C) (k_rc C) (k_pc C) (k_nw C) (k_n C) (k_fn C) (k_sn C) (k_kc C) (k_grp C) (k_key C) (k_srt C) (k_wt C) (k_home C) (k_drp C) (k_met C) (k_kin C) (k_alv C) (k_srs C) (k_row C) (k_sp C) (k_kis C) (k_pg C) (k_vq C) (k_rq C) (k_L C) (k_F C)) := hD
  refine lv_aload_n hx hb dX5_letGo_10 rfl (lv_at hl 0 rfl) ?_
  refine lv_iconst (v := nI (1)) hx hb dX5_letGo_11 (by decide) ?_
  refine wp_put (ci := 4) (v := .int (nI (1))) (ty := .int) (C := RX4) (T := TX4) (N := 6) hx hb hts hiX4 tyX4 tyX4_ok nmX4 hown hK hP hD hS hV.1 hV.2 rfl 4 (by decide) hf0 (fun _ h9 => h9) rfl (by decide +kernel) rfl rfl (Nat.le_of_ble_eq_true rfl) dX5_letGo_12 (fun H locs hP hD hS => ?_)
  have hP : va_P D vwCl (kX cI cJ cZ cV cR a (k_ra C) (k_rb C) (k_vc C) (k_rc C) (k_pc C) (k_nw C) (k_n C) (k_fn C) (k_sn C) (k_kc C) (k_grp C) (k_key C) (k_srt C) (k_wt C) (k_home C) (k_drp C) (k_met C) (k_kin C) (k_alv C) (k_srs C) (k_row C) (k_sp C) (k_kis C) (k_pg C) (k_vq C) (k_rq C) (k_L C) (va_up (k_F C) (q) (.inr (4, [.ref (hs), .ref (se), .int (nI (c9)), .int (nI (g9)), .int (nI (1)), .int (nI (r9))])))) H := hP
  have hD : va_D A (kX cI cJ cZ cV cR a (k_ra C) (k_rb C) (k_vc C) (k_rc C) (k_pc C) (k_nw C) (k_n C) (k_fn C) (k_sn C) (k_kc C) (k_grp C) (k_key C) (k_srt C) (k_wt C) (k_home C) (k_drp C) (k_met C) (k_kin C) (k_alv C) (k_srs C) (k_row C) (k_sp C) (k_kis C) (k_pg C) (k_vq C) (k_rq C) (k_L C) (va_up (k_F C) (q) (.inr (4, [.ref (hs), .ref (se), .int (nI (c9)), .int (nI (g9)), .int (nI (1)), .int (nI (r9))])))) := hD
  have hp3_0 : isZ cZ (k_L C) (va_up (k_F C) (q) (.inr (4, [.ref (hs), .ref (se), .int (nI (c9)), .int (nI (g9)), .int (nI (1)), .int (nI (r9))]))) (se) (sn9) (sf) := isE.keep hZ (ne_of_F hZ.2 hV.2 (fun h => nomatch h))
  have hp3_q : isV (k_L C) (va_up (k_F C) (q) (.inr (4, [.ref (hs), .ref (se), .int (nI (c9)), .int (nI (g9)), .int (nI (1)), .int (nI (r9))]))) (q) (hs) (se) (c9) (g9) (1) (r9) := ⟨hV.1, va_up_self _ _ _⟩
  refine lv_aload_n hx hb dX5_letGo_15 rfl (lv_at hl 1 rfl) ?_
  refine lv_aload_n hx hb dX5_letGo_16 rfl (lv_at hl 0 rfl) ?_
  have hPm : va_P D vwCl (kW cI cJ cZ cV cR a (mkC (k_ra C) (k_rb C) (k_vc C) (k_rc C) (k_pc C) (k_nw C) (k_n C) (k_fn C) (k_sn C) (k_kc C) (k_grp C) (k_key C) (k_srt C) (k_wt C) (k_home C) (k_drp C) (k_met C) (k_kin C) (k_alv C) (k_srs C) (k_row C) (k_sp C) (k_kis C) (k_pg C) (k_vq C) (k_rq C) (k_L C) (va_up (k_F C) (q) (.inr (4, [.ref (hs), .ref (se), .int (nI (c9)), .int (nI (g9)), .int (nI (1)), .int (nI (r9))]))))) H := by rw [← kX_mk]; exact hP
  have hDm : va_D A (kW cI cJ cZ cV cR a (mkC (k_ra C) (k_rb C) (k_vc C) (k_rc C) (k_pc C) (k_nw C) (k_n C) (k_fn C) (k_sn C) (k_kc C) (k_grp C) (k_key C) (k_srt C) (k_wt C) (k_home C) (k_drp C) (k_met C) (k_kin C) (k_alv C) (k_srs C) (k_row C) (k_sp C) (k_kis C) (k_pg C) (k_vq C) (k_rq C) (k_L C) (va_up (k_F C) (q) (.inr (4, [.ref (hs), .ref (se), .int (nI (c9)), .int (nI (g9)), .int (nI (1)), .int (nI (r9))]))))) := by rw [← kX_mk]; exact hD
  refine wc_VWi (As := [.ref (q)]) (rest := []) (wf := kW cI cJ cZ cV cR a) ⟨hx, hb, hml, hown, hts⟩ (c_X5_endIfIdle l D cI cJ cZ cV cR a (mkC (k_ra C) (k_rb C) (k_vc C) (k_rc C) (k_pc C) (k_nw C) (k_n C) (k_fn C) (k_sn C) (k_kc C) (k_grp C) (k_key C) (k_srt C) (k_wt C) (k_home C) (k_drp C) (k_met C) (k_kin C) (k_alv C) (k_srs C) (k_row C) (k_sp C) (k_kis C) (k_pg C) (k_vq C) (k_rq C) (k_L C) (va_up (k_F C) (q) (.inr (4, [.ref (hs), .ref (se), .int (nI (c9)), .int (nI (g9)), .int (nI (1)), .int (nI (r9))])))) (ok_any hM) (q) (hs) (se) (c9) (g9) (1) (r9) (sn9) (sf) (by rw [mkC_L, mkC_F]; exact hp3_q) (by omega) (by omega) (by omega) (by omega) (by rw [mkC_L, mkC_F]; exact hp3_0) (by omega) (fun hz9 => (by rw [mkC_srs]; exact hpos (by omega))) H.size) (cwV 1 hts gX5_letGo_X5_endIfIdle rfl rfl rfl (by decide +kernel) ⟨Nat.le_of_ble_eq_true rfl, Nat.le_of_ble_eq_true rfl⟩) hPm hK hDm hS hA 0 rfl rfl rfl hl.1 rfl (Nat.le_of_ble_eq_true rfl) dX5_letGo_17 ⟨Nat.le_of_ble_eq_true rfl, Nat.le_of_ble_eq_true rfl⟩ (fun rr u4 hq4 H locs hP hD hS => ?_)
  obtain ⟨hr4, hu4⟩ := hq4
  subst hr4
  have hu4 := hu4.symm
  subst hu4
  have hP : va_P D vwCl (kX cI cJ cZ cV cR a (k_ra (eiM (mkC (k_ra C) (k_rb C) (k_vc C) (k_rc C) (k_pc C) (k_nw C) (k_n C) (k_fn C) (k_sn C) (k_kc C) (k_grp C) (k_key C) (k_srt C) (k_wt C) (k_home C) (k_drp C) (k_met C) (k_kin C) (k_alv C) (k_srs C) (k_row C) (k_sp C) (k_kis C) (k_pg C) (k_vq C) (k_rq C) (k_L C) (va_up (k_F C) (q) (.inr (4, [.ref (hs), .ref (se), .int (nI (c9)), .int (nI (g9)), .int (nI (1)), .int (nI (r9))])))) (q) (hs) (se) (c9) (g9) (1) (r9) (sn9) (sf))) (k_rb (eiM (mkC (k_ra C) (k_rb C) (k_vc C) (k_rc C) (k_pc C) (k_nw C) (k_n C) (k_fn C) (k_sn C) (k_kc C) (k_grp C) (k_key C) (k_srt C) (k_wt C) (k_home C) (k_drp C) (k_met C) (k_kin C) (k_alv C) (k_srs C) (k_row C) (k_sp C) (k_kis C) (k_pg C) (k_vq C) (k_rq C) (k_L C) (va_up (k_F C) (q) (.inr (4, [.ref (hs), .ref (se), .int (nI (c9)), .int (nI (g9)), .int (nI (1)), .int (nI (r9))])))) (q) (hs) (se) (c9) (g9) (1) (r9) (sn9) (sf))) (k_vc (eiM (mkC (k_ra C) (k_rb C) (k_vc C) (k_rc C) (k_pc C) (k_nw C) (k_n C) (k_fn C) (k_sn C) (k_kc C) (k_grp C) (k_key C) (k_srt C) (k_wt C) (k_home C) (k_drp C) (k_met C) (k_kin C) (k_alv C) (k_srs C) (k_row C) (k_sp C) (k_kis C) (k_pg C) (k_vq C) (k_rq C) (k_L C) (va_up (k_F C) (q) (.inr (4, [.ref (hs), .ref (se), .int (nI (c9)), .int (nI (g9)), .int (nI (1)), .int (nI (r9))])))) (q) (hs) (se) (c9) (g9) (1) (r9) (sn9) (sf))) (k_rc (eiM (mkC (k_ra C) (k_rb C) (k_vc C) (k_rc C) (k_pc C) (k_nw C) (k_n C) (k_fn C) (k_sn C) (k_kc C) (k_grp C) (k_key C) (k_srt C) (k_wt C) (k_home C) (k_drp C) (k_met C) (k_kin C) (k_alv C) (k_srs C) (k_row C) (k_sp C) (k_kis C) (k_pg C) (k_vq C) (k_rq C) (k_L C) (va_up (k_F C) (q) (.inr (4, [.ref (hs), .ref (se), .int (nI (c9)), .int (nI (g9)), .int (nI (1)), .int (nI (r9))])))) (q) (hs) (se) (c9) (g9) (1) (r9) (sn9) (sf))) (k_pc (eiM (mkC (k_ra C) (k_rb C) (k_vc C) (k_rc C) (k_pc C) (k_nw C) (k_n C) (k_fn C) (k_sn C) (k_kc C) (k_grp C) (k_key C) (k_srt C) (k_wt C) (k_home C) (k_drp C) (k_met C) (k_kin C) (k_alv C) (k_srs C) (k_row C) (k_sp C) (k_kis C) (k_pg C) (k_vq C) (k_rq C) (k_L C) (va_up (k_F C) (q) (.inr (4, [.ref (hs), .ref (se), .int (nI (c9)), .int (nI (g9)), .int (nI (1)), .int (nI (r9))])))) (q) (hs) (se) (c9) (g9) (1) (r9) (sn9) (sf))) (k_nw (eiM (mkC (k_ra C) (k_rb C) (k_vc C) (k_rc C) (k_pc C) (k_nw C) (k_n C) (k_fn C) (k_sn C) (k_kc C) (k_grp C) (k_key C) (k_srt C) (k_wt C) (k_home C) (k_drp C) (k_met C) (k_kin C) (k_alv C) (k_srs C) (k_row C) (k_sp C) (k_kis C) (k_pg C) (k_vq C) (k_rq C) (k_L C) (va_up (k_F C) (q) (.inr (4, [.ref (hs), .ref (se), .int (nI (c9)), .int (nI (g9)), .int (nI (1)), .int (nI (r9))])))) (q) (hs) (se) (c9) (g9) (1) (r9) (sn9) (sf))) (k_n (eiM (mkC (k_ra C) (k_rb C) (k_vc C) (k_rc C) (k_pc C) (k_nw C) (k_n C) (k_fn C) (k_sn C) (k_kc C) (k_grp C) (k_key C) (k_srt C) (k_wt C) (k_home C) (k_drp C) (k_met C) (k_kin C) (k_alv C) (k_srs C) (k_row C) (k_sp C) (k_kis C) (k_pg C) (k_vq C) (k_rq C) (k_L C) (va_up (k_F C) (q) (.inr (4, [.ref (hs), .ref (se), .int (nI (c9)), .int (nI (g9)), .int (nI (1)), .int (nI (r9))])))) (q) (hs) (se) (c9) (g9) (1) (r9) (sn9) (sf))) (k_fn (eiM (mkC (k_ra C) (k_rb C) (k_vc C) (k_rc C) (k_pc C) (k_nw C) (k_n C) (k_fn C) (k_sn C) (k_kc C) (k_grp C) (k_key C) (k_srt C) (k_wt C) (k_home C) (k_drp C) (k_met C) (k_kin C) (k_alv C) (k_srs C) (k_row C) (k_sp C) (k_kis C) (k_pg C) (k_vq C) (k_rq C) (k_L C) (va_up (k_F C) (q) (.inr (4, [.ref (hs), .ref (se), .int (nI (c9)), .int (nI (g9)), .int (nI (1)), .int (nI (r9))])))) (q) (hs) (se) (c9) (g9) (1) (r9) (sn9) (sf))) (k_sn (eiM (mkC (k_ra C) (k_rb C) (k_vc C) (k_rc C) (k_pc C) (k_nw C) (k_n C) (k_fn C) (k_sn C) (k_kc C) (k_grp C) (k_key C) (k_srt C) (k_wt C) (k_home C) (k_drp C) (k_met C) (k_kin C) (k_alv C) (k_srs C) (k_row C) (k_sp C) (k_kis C) (k_pg C) (k_vq C) (k_rq C) (k_L C) (va_up (k_F C) (q) (.inr (4, [.ref (hs), .ref (se), .int (nI (c9)), .int (nI (g9)), .int (nI (1)), .int (nI (r9))])))) (q) (hs) (se) (c9) (g9) (1) (r9) (sn9) (sf))) (k_kc (eiM (mkC (k_ra C) (k_rb C) (k_vc C) (k_rc C) (k_pc C) (k_nw C) (k_n C) (k_fn C) (k_sn C) (k_kc C) (k_grp C) (k_key C) (k_srt C) (k_wt C) (k_home C) (k_drp C) (k_met C) (k_kin C) (k_alv C) (k_srs C) (k_row C) (k_sp C) (k_kis C) (k_pg C) (k_vq C) (k_rq C) (k_L C) (va_up (k_F C) (q) (.inr (4, [.ref (hs), .ref (se), .int (nI (c9)), .int (nI (g9)), .int (nI (1)), .int (nI (r9))])))) (q) (hs) (se) (c9) (g9) (1) (r9) (sn9) (sf))) (k_grp (eiM (mkC (k_ra C) (k_rb C) (k_vc C) (k_rc C) (k_pc C) (k_nw C) (k_n C) (k_fn C) (k_sn C) (k_kc C) (k_grp C) (k_key C) (k_srt C) (k_wt C) (k_home C) (k_drp C) (k_met C) (k_kin C) (k_alv C) (k_srs C) (k_row C) (k_sp C) (k_kis C) (k_pg C) (k_vq C) (k_rq C) (k_L C) (va_up (k_F C) (q) (.inr (4, [.ref (hs), .ref (se), .int (nI (c9)), .int (nI (g9)), .int (nI (1)), .int (nI (r9))])))) (q) (hs) (se) (c9) (g9) (1) (r9) (sn9) (sf))) (k_key (eiM (mkC (k_ra C) (k_rb C) (k_vc C) (k_rc C) (k_pc C) (k_nw C) (k_n C) (k_fn C) (k_sn C) (k_kc C) (k_grp C) (k_key C) (k_srt C) (k_wt C) (k_home C) (k_drp C) (k_met C) (k_kin C) (k_alv C) (k_srs C) (k_row C) (k_sp C) (k_kis C) (k_pg C) (k_vq C) (k_rq C) (k_L C) (va_up (k_F C) (q) (.inr (4, [.ref (hs), .ref (se), .int (nI (c9)), .int (nI (g9)), .int (nI (1)), .int (nI (r9))])))) (q) (hs) (se) (c9) (g9) (1) (r9) (sn9) (sf))) (k_srt (eiM (mkC (k_ra C) (k_rb C) (k_vc C) (k_rc C) (k_pc C) (k_nw C) (k_n C) (k_fn C) (k_sn C) (k_kc C) (k_grp C) (k_key C) (k_srt C) (k_wt C) (k_home C) (k_drp C) (k_met C) (k_kin C) (k_alv C) (k_srs C) (k_row C) (k_sp C) (k_kis C) (k_pg C) (k_vq C) (k_rq C) (k_L C) (va_up (k_F C) (q) (.inr (4, [.ref (hs), .ref (se), .int (nI (c9)), .int (nI (g9)), .int (nI (1)), .int (nI (r9))])))) (q) (hs) (se) (c9) (g9) (1) (r9) (sn9) (sf))) (k_wt (eiM (mkC (k_ra C) (k_rb C) (k_vc C) (k_rc C) (k_pc C) (k_nw C) (k_n C) (k_fn C) (k_sn C) (k_kc C) (k_grp C) (k_key C) (k_srt C) (k_wt C) (k_home C) (k_drp C) (k_met C) (k_kin C) (k_alv C) (k_srs C) (k_row C) (k_sp C) (k_kis C) (k_pg C) (k_vq C) (k_rq C) (k_L C) (va_up (k_F C) (q) (.inr (4, [.ref (hs), .ref (se), .int (nI (c9)), .int (nI (g9)), .int (nI (1)), .int (nI (r9))])))) (q) (hs) (se) (c9) (g9) (1) (r9) (sn9) (sf))) (k_home (eiM (mkC (k_ra C) (k_rb C) (k_vc C) (k_rc C) (k_pc C) (k_nw C) (k_n C) (k_fn C) (k_sn C) (k_kc C) (k_grp C) (k_key C) (k_srt C) (k_wt C) (k_home C) (k_drp C) (k_met C) (k_kin C) (k_alv C) (k_srs C) (k_row C) (k_sp C) (k_kis C) (k_pg C) (k_vq C) (k_rq C) (k_L C) (va_up (k_F C) (q) (.inr (4, [.ref (hs), .ref (se), .int (nI (c9)), .int (nI (g9)), .int (nI (1)), .int (nI (r9))])))) (q) (hs) (se) (c9) (g9) (1) (r9) (sn9) (sf))) (k_drp (eiM (mkC (k_ra C) (k_rb C) (k_vc C) (k_rc C) (k_pc C) (k_nw C) (k_n C) (k_fn C) (k_sn C) (k_kc C) (k_grp C) (k_key C) (k_srt C) (k_wt C) (k_home C) (k_drp C) (k_met C) (k_kin C) (k_alv C) (k_srs C) (k_row C) (k_sp C) (k_kis C) (k_pg C) (k_vq C) (k_rq C) (k_L C) (va_up (k_F C) (q) (.inr (4, [.ref (hs), .ref (se), .int (nI (c9)), .int (nI (g9)), .int (nI (1)), .int (nI (r9))])))) (q) (hs) (se) (c9) (g9) (1) (r9) (sn9) (sf))) (k_met (eiM (mkC (k_ra C) (k_rb C) (k_vc C) (k_rc C) (k_pc C) (k_nw C) (k_n C) (k_fn C) (k_sn C) (k_kc C) (k_grp C) (k_key C) (k_srt C) (k_wt C) (k_home C) (k_drp C) (k_met C) (k_kin C) (k_alv C) (k_srs C) (k_row C) (k_sp C) (k_kis C) (k_pg C) (k_vq C) (k_rq C) (k_L C) (va_up (k_F C) (q) (.inr (4, [.ref (hs), .ref (se), .int (nI (c9)), .int (nI (g9)), .int (nI (1)), .int (nI (r9))])))) (q) (hs) (se) (c9) (g9) (1) (r9) (sn9) (sf))) (k_kin (eiM (mkC (k_ra C) (k_rb C) (k_vc C) (k_rc C) (k_pc C) (k_nw C) (k_n C) (k_fn C) (k_sn C) (k_kc C) (k_grp C) (k_key C) (k_srt C) (k_wt C) (k_home C) (k_drp C) (k_met C) (k_kin C) (k_alv C) (k_srs C) (k_row C) (k_sp C) (k_kis C) (k_pg C) (k_vq C) (k_rq C) (k_L C) (va_up (k_F C) (q) (.inr (4, [.ref (hs), .ref (se), .int (nI (c9)), .int (nI (g9)), .int (nI (1)), .int (nI (r9))])))) (q) (hs) (se) (c9) (g9) (1) (r9) (sn9) (sf))) (k_alv (eiM (mkC (k_ra C) (k_rb C) (k_vc C) (k_rc C) (k_pc C) (k_nw C) (k_n C) (k_fn C) (k_sn C) (k_kc C) (k_grp C) (k_key C) (k_srt C) (k_wt C) (k_home C) (k_drp C) (k_met C) (k_kin C) (k_alv C) (k_srs C) (k_row C) (k_sp C) (k_kis C) (k_pg C) (k_vq C) (k_rq C) (k_L C) (va_up (k_F C) (q) (.inr (4, [.ref (hs), .ref (se), .int (nI (c9)), .int (nI (g9)), .int (nI (1)), .int (nI (r9))])))) (q) (hs) (se) (c9) (g9) (1) (r9) (sn9) (sf))) (k_srs (eiM (mkC (k_ra C) (k_rb C) (k_vc C) (k_rc C) (k_pc C) (k_nw C) (k_n C) (k_fn C) (k_sn C) (k_kc C) (k_grp C) (k_key C) (k_srt C) (k_wt C) (k_home C) (k_drp C) (k_met C) (k_kin C) (k_alv C) (k_srs C) (k_row C) (k_sp C) (k_kis C) (k_pg C) (k_vq C) (k_rq C) (k_L C) (va_up (k_F C) (q) (.inr (4, [.ref (hs), .ref (se), .int (nI (c9)), .int (nI (g9)), .int (nI (1)), .int (nI (r9))])))) (q) (hs) (se) (c9) (g9) (1) (r9) (sn9) (sf))) (k_row (eiM (mkC (k_ra C) (k_rb C) (k_vc C) (k_rc C) (k_pc C) (k_nw C) (k_n C) (k_fn C) (k_sn C) (k_kc C) (k_grp C) (k_key C) (k_srt C) (k_wt C) (k_home C) (k_drp C) (k_met C) (k_kin C) (k_alv C) (k_srs C) (k_row C) (k_sp C) (k_kis C) (k_pg C) (k_vq C) (k_rq C) (k_L C) (va_up (k_F C) (q) (.inr (4, [.ref (hs), .ref (se), .int (nI (c9)), .int (nI (g9)), .int (nI (1)), .int (nI (r9))])))) (q) (hs) (se) (c9) (g9) (1) (r9) (sn9) (sf))) (k_sp (eiM (mkC (k_ra C) (k_rb C) (k_vc C) (k_rc C) (k_pc C) (k_nw C) (k_n C) (k_fn C) (k_sn C) (k_kc C) (k_grp C) (k_key C) (k_srt C) (k_wt C) (k_home C) (k_drp C) (k_met C) (k_kin C) (k_alv C) (k_srs C) (k_row C) (k_sp C) (k_kis C) (k_pg C) (k_vq C) (k_rq C) (k_L C) (va_up (k_F C) (q) (.inr (4, [.ref (hs), .ref (se), .int (nI (c9)), .int (nI (g9)), .int (nI (1)), .int (nI (r9))])))) (q) (hs) (se) (c9) (g9) (1) (r9) (sn9) (sf))) (k_kis (eiM (mkC (k_ra C) (k_rb C) (k_vc C) (k_rc C) (k_pc C) (k_nw C) (k_n C) (k_fn C) (k_sn C) (k_kc C) (k_grp C) (k_key C) (k_srt C) (k_wt C) (k_home C) (k_drp C) (k_met C) (k_kin C) (k_alv C) (k_srs C) (k_row C) (k_sp C) (k_kis C) (k_pg C) (k_vq C) (k_rq C) (k_L C) (va_up (k_F C) (q) (.inr (4, [.ref (hs), .ref (se), .int (nI (c9)), .int (nI (g9)), .int (nI (1)), .int (nI (r9))])))) (q) (hs) (se) (c9) (g9) (1) (r9) (sn9) (sf))) (k_pg (eiM (mkC (k_ra C) (k_rb C) (k_vc C) (k_rc C) (k_pc C) (k_nw C) (k_n C) (k_fn C) (k_sn C) (k_kc C) (k_grp C) (k_key C) (k_srt C) (k_wt C) (k_home C) (k_drp C) (k_met C) (k_kin C) (k_alv C) (k_srs C) (k_row C) (k_sp C) (k_kis C) (k_pg C) (k_vq C) (k_rq C) (k_L C) (va_up (k_F C) (q) (.inr (4, [.ref (hs), .ref (se), .int (nI (c9)), .int (nI (g9)), .int (nI (1)), .int (nI (r9))])))) (q) (hs) (se) (c9) (g9) (1) (r9) (sn9) (sf))) (k_vq (eiM (mkC (k_ra C) (k_rb C) (k_vc C) (k_rc C) (k_pc C) (k_nw C) (k_n C) (k_fn C) (k_sn C) (k_kc C) (k_grp C) (k_key C) (k_srt C) (k_wt C) (k_home C) (k_drp C) (k_met C) (k_kin C) (k_alv C) (k_srs C) (k_row C) (k_sp C) (k_kis C) (k_pg C) (k_vq C) (k_rq C) (k_L C) (va_up (k_F C) (q) (.inr (4, [.ref (hs), .ref (se), .int (nI (c9)), .int (nI (g9)), .int (nI (1)), .int (nI (r9))])))) (q) (hs) (se) (c9) (g9) (1) (r9) (sn9) (sf))) (k_rq (eiM (mkC (k_ra C) (k_rb C) (k_vc C) (k_rc C) (k_pc C) (k_nw C) (k_n C) (k_fn C) (k_sn C) (k_kc C) (k_grp C) (k_key C) (k_srt C) (k_wt C) (k_home C) (k_drp C) (k_met C) (k_kin C) (k_alv C) (k_srs C) (k_row C) (k_sp C) (k_kis C) (k_pg C) (k_vq C) (k_rq C) (k_L C) (va_up (k_F C) (q) (.inr (4, [.ref (hs), .ref (se), .int (nI (c9)), .int (nI (g9)), .int (nI (1)), .int (nI (r9))])))) (q) (hs) (se) (c9) (g9) (1) (r9) (sn9) (sf))) (k_L (eiM (mkC (k_ra C) (k_rb C) (k_vc C) (k_rc C) (k_pc C) (k_nw C) (k_n C) (k_fn C) (k_sn C) (k_kc C) (k_grp C) (k_key C) (k_srt C) (k_wt C) (k_home C) (k_drp C) (k_met C) (k_kin C) (k_alv C) (k_srs C) (k_row C) (k_sp C) (k_kis C) (k_pg C) (k_vq C) (k_rq C) (k_L C) (va_up (k_F C) (q) (.inr (4, [.ref (hs), .ref (se), .int (nI (c9)), .int (nI (g9)), .int (nI (1)), .int (nI (r9))])))) (q) (hs) (se) (c9) (g9) (1) (r9) (sn9) (sf))) (k_F (eiM (mkC (k_ra C) (k_rb C) (k_vc C) (k_rc C) (k_pc C) (k_nw C) (k_n C) (k_fn C) (k_sn C) (k_kc C) (k_grp C) (k_key C) (k_srt C) (k_wt C) (k_home C) (k_drp C) (k_met C) (k_kin C) (k_alv C) (k_srs C) (k_row C) (k_sp C) (k_kis C) (k_pg C) (k_vq C) (k_rq C) (k_L C) (va_up (k_F C) (q) (.inr (4, [.ref (hs), .ref (se), .int (nI (c9)), .int (nI (g9)), .int (nI (1)), .int (nI (r9))])))) (q) (hs) (se) (c9) (g9) (1) (r9) (sn9) (sf)))) H := hP
  have hD : va_D A (kX cI cJ cZ cV cR a (k_ra (eiM (mkC (k_ra C) (k_rb C) (k_vc C) (k_rc C) (k_pc C) (k_nw C) (k_n C) (k_fn C) (k_sn C) (k_kc C) (k_grp C) (k_key C) (k_srt C) (k_wt C) (k_home C) (k_drp C) (k_met C) (k_kin C) (k_alv C) (k_srs C) (k_row C) (k_sp C) (k_kis C) (k_pg C) (k_vq C) (k_rq C) (k_L C) (va_up (k_F C) (q) (.inr (4, [.ref (hs), .ref (se), .int (nI (c9)), .int (nI (g9)), .int (nI (1)), .int (nI (r9))])))) (q) (hs) (se) (c9) (g9) (1) (r9) (sn9) (sf))) (k_rb (eiM (mkC (k_ra C) (k_rb C) (k_vc C) (k_rc C) (k_pc C) (k_nw C) (k_n C) (k_fn C) (k_sn C) (k_kc C) (k_grp C) (k_key C) (k_srt C) (k_wt C) (k_home C) (k_drp C) (k_met C) (k_kin C) (k_alv C) (k_srs C) (k_row C) (k_sp C) (k_kis C) (k_pg C) (k_vq C) (k_rq C) (k_L C) (va_up (k_F C) (q) (.inr (4, [.ref (hs), .ref (se), .int (nI (c9)), .int (nI (g9)), .int (nI (1)), .int (nI (r9))])))) (q) (hs) (se) (c9) (g9) (1) (r9) (sn9) (sf))) (k_vc (eiM (mkC (k_ra C) (k_rb C) (k_vc C) (k_rc C) (k_pc C) (k_nw C) (k_n C) (k_fn C) (k_sn C) (k_kc C) (k_grp C) (k_key C) (k_srt C) (k_wt C) (k_home C) (k_drp C) (k_met C) (k_kin C) (k_alv C) (k_srs C) (k_row C) (k_sp C) (k_kis C) (k_pg C) (k_vq C) (k_rq C) (k_L C) (va_up (k_F C) (q) (.inr (4, [.ref (hs), .ref (se), .int (nI (c9)), .int (nI (g9)), .int (nI (1)), .int (nI (r9))])))) (q) (hs) (se) (c9) (g9) (1) (r9) (sn9) (sf))) (k_rc (eiM (mkC (k_ra C) (k_rb C) (k_vc C) (k_rc C) (k_pc C) (k_nw C) (k_n C) (k_fn C) (k_sn C) (k_kc C) (k_grp C) (k_key C) (k_srt C) (k_wt C) (k_home C) (k_drp C) (k_met C) (k_kin C) (k_alv C) (k_srs C) (k_row C) (k_sp C) (k_kis C) (k_pg C) (k_vq C) (k_rq C) (k_L C) (va_up (k_F C) (q) (.inr (4, [.ref (hs), .ref (se), .int (nI (c9)), .int (nI (g9)), .int (nI (1)), .int (nI (r9))])))) (q) (hs) (se) (c9) (g9) (1) (r9) (sn9) (sf))) (k_pc (eiM (mkC (k_ra C) (k_rb C) (k_vc C) (k_rc C) (k_pc C) (k_nw C) (k_n C) (k_fn C) (k_sn C) (k_kc C) (k_grp C) (k_key C) (k_srt C) (k_wt C) (k_home C) (k_drp C) (k_met C) (k_kin C) (k_alv C) (k_srs C) (k_row C) (k_sp C) (k_kis C) (k_pg C) (k_vq C) (k_rq C) (k_L C) (va_up (k_F C) (q) (.inr (4, [.ref (hs), .ref (se), .int (nI (c9)), .int (nI (g9)), .int (nI (1)), .int (nI (r9))])))) (q) (hs) (se) (c9) (g9) (1) (r9) (sn9) (sf))) (k_nw (eiM (mkC (k_ra C) (k_rb C) (k_vc C) (k_rc C) (k_pc C) (k_nw C) (k_n C) (k_fn C) (k_sn C) (k_kc C) (k_grp C) (k_key C) (k_srt C) (k_wt C) (k_home C) (k_drp C) (k_met C) (k_kin C) (k_alv C) (k_srs C) (k_row C) (k_sp C) (k_kis C) (k_pg C) (k_vq C) (k_rq C) (k_L C) (va_up (k_F C) (q) (.inr (4, [.ref (hs), .ref (se), .int (nI (c9)), .int (nI (g9)), .int (nI (1)), .int (nI (r9))])))) (q) (hs) (se) (c9) (g9) (1) (r9) (sn9) (sf))) (k_n (eiM (mkC (k_ra C) (k_rb C) (k_vc C) (k_rc C) (k_pc C) (k_nw C) (k_n C) (k_fn C) (k_sn C) (k_kc C) (k_grp C) (k_key C) (k_srt C) (k_wt C) (k_home C) (k_drp C) (k_met C) (k_kin C) (k_alv C) (k_srs C) (k_row C) (k_sp C) (k_kis C) (k_pg C) (k_vq C) (k_rq C) (k_L C) (va_up (k_F C) (q) (.inr (4, [.ref (hs), .ref (se), .int (nI (c9)), .int (nI (g9)), .int (nI (1)), .int (nI (r9))])))) (q) (hs) (se) (c9) (g9) (1) (r9) (sn9) (sf))) (k_fn (eiM (mkC (k_ra C) (k_rb C) (k_vc C) (k_rc C) (k_pc C) (k_nw C) (k_n C) (k_fn C) (k_sn C) (k_kc C) (k_grp C) (k_key C) (k_srt C) (k_wt C) (k_home C) (k_drp C) (k_met C) (k_kin C) (k_alv C) (k_srs C) (k_row C) (k_sp C) (k_kis C) (k_pg C) (k_vq C) (k_rq C) (k_L C) (va_up (k_F C) (q) (.inr (4, [.ref (hs), .ref (se), .int (nI (c9)), .int (nI (g9)), .int (nI (1)), .int (nI (r9))])))) (q) (hs) (se) (c9) (g9) (1) (r9) (sn9) (sf))) (k_sn (eiM (mkC (k_ra C) (k_rb C) (k_vc C) (k_rc C) (k_pc C) (k_nw C) (k_n C) (k_fn C) (k_sn C) (k_kc C) (k_grp C) (k_key C) (k_srt C) (k_wt C) (k_home C) (k_drp C) (k_met C) (k_kin C) (k_alv C) (k_srs C) (k_row C) (k_sp C) (k_kis C) (k_pg C) (k_vq C) (k_rq C) (k_L C) (va_up (k_F C) (q) (.inr (4, [.ref (hs), .ref (se), .int (nI (c9)), .int (nI (g9)), .int (nI (1)), .int (nI (r9))])))) (q) (hs) (se) (c9) (g9) (1) (r9) (sn9) (sf))) (k_kc (eiM (mkC (k_ra C) (k_rb C) (k_vc C) (k_rc C) (k_pc C) (k_nw C) (k_n C) (k_fn C) (k_sn C) (k_kc C) (k_grp C) (k_key C) (k_srt C) (k_wt C) (k_home C) (k_drp C) (k_met C) (k_kin C) (k_alv C) (k_srs C) (k_row C) (k_sp C) (k_kis C) (k_pg C) (k_vq C) (k_rq C) (k_L C) (va_up (k_F C) (q) (.inr (4, [.ref (hs), .ref (se), .int (nI (c9)), .int (nI (g9)), .int (nI (1)), .int (nI (r9))])))) (q) (hs) (se) (c9) (g9) (1) (r9) (sn9) (sf))) (k_grp (eiM (mkC (k_ra C) (k_rb C) (k_vc C) (k_rc C) (k_pc C) (k_nw C) (k_n C) (k_fn C) (k_sn C) (k_kc C) (k_grp C) (k_key C) (k_srt C) (k_wt C) (k_home C) (k_drp C) (k_met C) (k_kin C) (k_alv C) (k_srs C) (k_row C) (k_sp C) (k_kis C) (k_pg C) (k_vq C) (k_rq C) (k_L C) (va_up (k_F C) (q) (.inr (4, [.ref (hs), .ref (se), .int (nI (c9)), .int (nI (g9)), .int (nI (1)), .int (nI (r9))])))) (q) (hs) (se) (c9) (g9) (1) (r9) (sn9) (sf))) (k_key (eiM (mkC (k_ra C) (k_rb C) (k_vc C) (k_rc C) (k_pc C) (k_nw C) (k_n C) (k_fn C) (k_sn C) (k_kc C) (k_grp C) (k_key C) (k_srt C) (k_wt C) (k_home C) (k_drp C) (k_met C) (k_kin C) (k_alv C) (k_srs C) (k_row C) (k_sp C) (k_kis C) (k_pg C) (k_vq C) (k_rq C) (k_L C) (va_up (k_F C) (q) (.inr (4, [.ref (hs), .ref (se), .int (nI (c9)), .int (nI (g9)), .int (nI (1)), .int (nI (r9))])))) (q) (hs) (se) (c9) (g9) (1) (r9) (sn9) (sf))) (k_srt (eiM (mkC (k_ra C) (k_rb C) (k_vc C) (k_rc C) (k_pc C) (k_nw C) (k_n C) (k_fn C) (k_sn C) (k_kc C) (k_grp C) (k_key C) (k_srt C) (k_wt C) (k_home C) (k_drp C) (k_met C) (k_kin C) (k_alv C) (k_srs C) (k_row C) (k_sp C) (k_kis C) (k_pg C) (k_vq C) (k_rq C) (k_L C) (va_up (k_F C) (q) (.inr (4, [.ref (hs), .ref (se), .int (nI (c9)), .int (nI (g9)), .int (nI (1)), .int (nI (r9))])))) (q) (hs) (se) (c9) (g9) (1) (r9) (sn9) (sf))) (k_wt (eiM (mkC (k_ra C) (k_rb C) (k_vc C) (k_rc C) (k_pc C) (k_nw C) (k_n C) (k_fn C) (k_sn C) (k_kc C) (k_grp C) (k_key C) (k_srt C) (k_wt C) (k_home C) (k_drp C) (k_met C) (k_kin C) (k_alv C) (k_srs C) (k_row C) (k_sp C) (k_kis C) (k_pg C) (k_vq C) (k_rq C) (k_L C) (va_up (k_F C) (q) (.inr (4, [.ref (hs), .ref (se), .int (nI (c9)), .int (nI (g9)), .int (nI (1)), .int (nI (r9))])))) (q) (hs) (se) (c9) (g9) (1) (r9) (sn9) (sf))) (k_home (eiM (mkC (k_ra C) (k_rb C) (k_vc C) (k_rc C) (k_pc C) (k_nw C) (k_n C) (k_fn C) (k_sn C) (k_kc C) (k_grp C) (k_key C) (k_srt C) (k_wt C) (k_home C) (k_drp C) (k_met C) (k_kin C) (k_alv C) (k_srs C) (k_row C) (k_sp C) (k_kis C) (k_pg C) (k_vq C) (k_rq C) (k_L C) (va_up (k_F C) (q) (.inr (4, [.ref (hs), .ref (se), .int (nI (c9)), .int (nI (g9)), .int (nI (1)), .int (nI (r9))])))) (q) (hs) (se) (c9) (g9) (1) (r9) (sn9) (sf))) (k_drp (eiM (mkC (k_ra C) (k_rb C) (k_vc C) (k_rc C) (k_pc C) (k_nw C) (k_n C) (k_fn C) (k_sn C) (k_kc C) (k_grp C) (k_key C) (k_srt C) (k_wt C) (k_home C) (k_drp C) (k_met C) (k_kin C) (k_alv C) (k_srs C) (k_row C) (k_sp C) (k_kis C) (k_pg C) (k_vq C) (k_rq C) (k_L C) (va_up (k_F C) (q) (.inr (4, [.ref (hs), .ref (se), .int (nI (c9)), .int (nI (g9)), .int (nI (1)), .int (nI (r9))])))) (q) (hs) (se) (c9) (g9) (1) (r9) (sn9) (sf))) (k_met (eiM (mkC (k_ra C) (k_rb C) (k_vc C) (k_rc C) (k_pc C) (k_nw C) (k_n C) (k_fn C) (k_sn C) (k_kc C) (k_grp C) (k_key C) (k_srt C) (k_wt C) (k_home C) (k_drp C) (k_met C) (k_kin C) (k_alv C) (k_srs C) (k_row C) (k_sp C) (k_kis C) (k_pg C) (k_vq C) (k_rq C) (k_L C) (va_up (k_F C) (q) (.inr (4, [.ref (hs), .ref (se), .int (nI (c9)), .int (nI (g9)), .int (nI (1)), .int (nI (r9))])))) (q) (hs) (se) (c9) (g9) (1) (r9) (sn9) (sf))) (k_kin (eiM (mkC (k_ra C) (k_rb C) (k_vc C) (k_rc C) (k_pc C) (k_nw C) (k_n C) (k_fn C) (k_sn C) (k_kc C) (k_grp C) (k_key C) (k_srt C) (k_wt C) (k_home C) (k_drp C) (k_met C) (k_kin C) (k_alv C) (k_srs C) (k_row C) (k_sp C) (k_kis C) (k_pg C) (k_vq C) (k_rq C) (k_L C) (va_up (k_F C) (q) (.inr (4, [.ref (hs), .ref (se), .int (nI (c9)), .int (nI (g9)), .int (nI (1)), .int (nI (r9))])))) (q) (hs) (se) (c9) (g9) (1) (r9) (sn9) (sf))) (k_alv (eiM (mkC (k_ra C) (k_rb C) (k_vc C) (k_rc C) (k_pc C) (k_nw C) (k_n C) (k_fn C) (k_sn C) (k_kc C) (k_grp C) (k_key C) (k_srt C) (k_wt C) (k_home C) (k_drp C) (k_met C) (k_kin C) (k_alv C) (k_srs C) (k_row C) (k_sp C) (k_kis C) (k_pg C) (k_vq C) (k_rq C) (k_L C) (va_up (k_F C) (q) (.inr (4, [.ref (hs), .ref (se), .int (nI (c9)), .int (nI (g9)), .int (nI (1)), .int (nI (r9))])))) (q) (hs) (se) (c9) (g9) (1) (r9) (sn9) (sf))) (k_srs (eiM (mkC (k_ra C) (k_rb C) (k_vc C) (k_rc C) (k_pc C) (k_nw C) (k_n C) (k_fn C) (k_sn C) (k_kc C) (k_grp C) (k_key C) (k_srt C) (k_wt C) (k_home C) (k_drp C) (k_met C) (k_kin C) (k_alv C) (k_srs C) (k_row C) (k_sp C) (k_kis C) (k_pg C) (k_vq C) (k_rq C) (k_L C) (va_up (k_F C) (q) (.inr (4, [.ref (hs), .ref (se), .int (nI (c9)), .int (nI (g9)), .int (nI (1)), .int (nI (r9))])))) (q) (hs) (se) (c9) (g9) (1) (r9) (sn9) (sf))) (k_row (eiM (mkC (k_ra C) (k_rb C) (k_vc C) (k_rc C) (k_pc C) (k_nw C) (k_n C) (k_fn C) (k_sn C) (k_kc C) (k_grp C) (k_key C) (k_srt C) (k_wt C) (k_home C) (k_drp C) (k_met C) (k_kin C) (k_alv C) (k_srs C) (k_row C) (k_sp C) (k_kis C) (k_pg C) (k_vq C) (k_rq C) (k_L C) (va_up (k_F C) (q) (.inr (4, [.ref (hs), .ref (se), .int (nI (c9)), .int (nI (g9)), .int (nI (1)), .int (nI (r9))])))) (q) (hs) (se) (c9) (g9) (1) (r9) (sn9) (sf))) (k_sp (eiM (mkC (k_ra C) (k_rb C) (k_vc C) (k_rc C) (k_pc C) (k_nw C) (k_n C) (k_fn C) (k_sn C) (k_kc C) (k_grp C) (k_key C) (k_srt C) (k_wt C) (k_home C) (k_drp C) (k_met C) (k_kin C) (k_alv C) (k_srs C) (k_row C) (k_sp C) (k_kis C) (k_pg C) (k_vq C) (k_rq C) (k_L C) (va_up (k_F C) (q) (.inr (4, [.ref (hs), .ref (se), .int (nI (c9)), .int (nI (g9)), .int (nI (1)), .int (nI (r9))])))) (q) (hs) (se) (c9) (g9) (1) (r9) (sn9) (sf))) (k_kis (eiM (mkC (k_ra C) (k_rb C) (k_vc C) (k_rc C) (k_pc C) (k_nw C) (k_n C) (k_fn C) (k_sn C) (k_kc C) (k_grp C) (k_key C) (k_srt C) (k_wt C) (k_home C) (k_drp C) (k_met C) (k_kin C) (k_alv C) (k_srs C) (k_row C) (k_sp C) (k_kis C) (k_pg C) (k_vq C) (k_rq C) (k_L C) (va_up (k_F C) (q) (.inr (4, [.ref (hs), .ref (se), .int (nI (c9)), .int (nI (g9)), .int (nI (1)), .int (nI (r9))])))) (q) (hs) (se) (c9) (g9) (1) (r9) (sn9) (sf))) (k_pg (eiM (mkC (k_ra C) (k_rb C) (k_vc C) (k_rc C) (k_pc C) (k_nw C) (k_n C) (k_fn C) (k_sn C) (k_kc C) (k_grp C) (k_key C) (k_srt C) (k_wt C) (k_home C) (k_drp C) (k_met C) (k_kin C) (k_alv C) (k_srs C) (k_row C) (k_sp C) (k_kis C) (k_pg C) (k_vq C) (k_rq C) (k_L C) (va_up (k_F C) (q) (.inr (4, [.ref (hs), .ref (se), .int (nI (c9)), .int (nI (g9)), .int (nI (1)), .int (nI (r9))])))) (q) (hs) (se) (c9) (g9) (1) (r9) (sn9) (sf))) (k_vq (eiM (mkC (k_ra C) (k_rb C) (k_vc C) (k_rc C) (k_pc C) (k_nw C) (k_n C) (k_fn C) (k_sn C) (k_kc C) (k_grp C) (k_key C) (k_srt C) (k_wt C) (k_home C) (k_drp C) (k_met C) (k_kin C) (k_alv C) (k_srs C) (k_row C) (k_sp C) (k_kis C) (k_pg C) (k_vq C) (k_rq C) (k_L C) (va_up (k_F C) (q) (.inr (4, [.ref (hs), .ref (se), .int (nI (c9)), .int (nI (g9)), .int (nI (1)), .int (nI (r9))])))) (q) (hs) (se) (c9) (g9) (1) (r9) (sn9) (sf))) (k_rq (eiM (mkC (k_ra C) (k_rb C) (k_vc C) (k_rc C) (k_pc C) (k_nw C) (k_n C) (k_fn C) (k_sn C) (k_kc C) (k_grp C) (k_key C) (k_srt C) (k_wt C) (k_home C) (k_drp C) (k_met C) (k_kin C) (k_alv C) (k_srs C) (k_row C) (k_sp C) (k_kis C) (k_pg C) (k_vq C) (k_rq C) (k_L C) (va_up (k_F C) (q) (.inr (4, [.ref (hs), .ref (se), .int (nI (c9)), .int (nI (g9)), .int (nI (1)), .int (nI (r9))])))) (q) (hs) (se) (c9) (g9) (1) (r9) (sn9) (sf))) (k_L (eiM (mkC (k_ra C) (k_rb C) (k_vc C) (k_rc C) (k_pc C) (k_nw C) (k_n C) (k_fn C) (k_sn C) (k_kc C) (k_grp C) (k_key C) (k_srt C) (k_wt C) (k_home C) (k_drp C) (k_met C) (k_kin C) (k_alv C) (k_srs C) (k_row C) (k_sp C) (k_kis C) (k_pg C) (k_vq C) (k_rq C) (k_L C) (va_up (k_F C) (q) (.inr (4, [.ref (hs), .ref (se), .int (nI (c9)), .int (nI (g9)), .int (nI (1)), .int (nI (r9))])))) (q) (hs) (se) (c9) (g9) (1) (r9) (sn9) (sf))) (k_F (eiM (mkC (k_ra C) (k_rb C) (k_vc C) (k_rc C) (k_pc C) (k_nw C) (k_n C) (k_fn C) (k_sn C) (k_kc C) (k_grp C) (k_key C) (k_srt C) (k_wt C) (k_home C) (k_drp C) (k_met C) (k_kin C) (k_alv C) (k_srs C) (k_row C) (k_sp C) (k_kis C) (k_pg C) (k_vq C) (k_rq C) (k_L C) (va_up (k_F C) (q) (.inr (4, [.ref (hs), .ref (se), .int (nI (c9)), .int (nI (g9)), .int (nI (1)), .int (nI (r9))])))) (q) (hs) (se) (c9) (g9) (1) (r9) (sn9) (sf)))) := hD
  have hPm : va_P D vwCl (kW cI cJ cZ cV cR a (eiM (mkC (k_ra C) (k_rb C) (k_vc C) (k_rc C) (k_pc C) (k_nw C) (k_n C) (k_fn C) (k_sn C) (k_kc C) (k_grp C) (k_key C) (k_srt C) (k_wt C) (k_home C) (k_drp C) (k_met C) (k_kin C) (k_alv C) (k_srs C) (k_row C) (k_sp C) (k_kis C) (k_pg C) (k_vq C) (k_rq C) (k_L C) (va_up (k_F C) (q) (.inr (4, [.ref (hs), .ref (se), .int (nI (c9)), .int (nI (g9)), .int (nI (1)), .int (nI (r9))])))) (q) (hs) (se) (c9) (g9) (1) (r9) (sn9) (sf))) H := by exact hP
  have hDm : va_D A (kW cI cJ cZ cV cR a (eiM (mkC (k_ra C) (k_rb C) (k_vc C) (k_rc C) (k_pc C) (k_nw C) (k_n C) (k_fn C) (k_sn C) (k_kc C) (k_grp C) (k_key C) (k_srt C) (k_wt C) (k_home C) (k_drp C) (k_met C) (k_kin C) (k_alv C) (k_srs C) (k_row C) (k_sp C) (k_kis C) (k_pg C) (k_vq C) (k_rq C) (k_L C) (va_up (k_F C) (q) (.inr (4, [.ref (hs), .ref (se), .int (nI (c9)), .int (nI (g9)), .int (nI (1)), .int (nI (r9))])))) (q) (hs) (se) (c9) (g9) (1) (r9) (sn9) (sf))) := by exact hD
  exact W.iret (v := nI (eiR (mkC (k_ra C) (k_rb C) (k_vc C) (k_rc C) (k_pc C) (k_nw C) (k_n C) (k_fn C) (k_sn C) (k_kc C) (k_grp C) (k_key C) (k_srt C) (k_wt C) (k_home C) (k_drp C) (k_met C) (k_kin C) (k_alv C) (k_srs C) (k_row C) (k_sp C) (k_kis C) (k_pg C) (k_vq C) (k_rq C) (k_L C) (va_up (k_F C) (q) (.inr (4, [.ref (hs), .ref (se), .int (nI (c9)), .int (nI (g9)), .int (nI (1)), .int (nI (r9))])))) (1) (r9) (sn9) (sf))) hx hb hr (fun t ht hW => ⟨⟨_, (eiM (mkC (k_ra C) (k_rb C) (k_vc C) (k_rc C) (k_pc C) (k_nw C) (k_n C) (k_fn C) (k_sn C) (k_kc C) (k_grp C) (k_key C) (k_srt C) (k_wt C) (k_home C) (k_drp C) (k_met C) (k_kin C) (k_alv C) (k_srs C) (k_row C) (k_sp C) (k_kis C) (k_pg C) (k_vq C) (k_rq C) (k_L C) (va_up (k_F C) (q) (.inr (4, [.ref (hs), .ref (se), .int (nI (c9)), .int (nI (g9)), .int (nI (1)), .int (nI (r9))])))) (q) (hs) (se) (c9) (g9) (1) (r9) (sn9) (sf)), rfl, ⟨rfl, rfl⟩, gb_mk ht hW hPm hK hDm⟩, hS.F ht⟩) hS.2.2 dX5_letGo_20
def rmx_X5_letGo_v : Room := { frames := 7, cells := 1, slots := 6, locals := 104 }
set_option maxHeartbeats 4000000 in
set_option maxRecDepth 100000 in
/-- no such view -/
theorem x_X5_letGo_v (l : Launch) (htr : l.stackTraces = false) (D : va_G) (cI cJ cZ cV cR : ClassId) (a : Nat → Nat) (C : CT) (hM : kOk C) (x : Int32) (hbad : x.toInt < 0 ∨ ((k_vc C : Nat) : Int) ≤ x.toInt) (sz : Nat) : vx_Met l yX5_letGo wsX5_letGo rmx_X5_letGo_v (va_Pc [.ref (a 0), .int (x)] (GX D (tyK cI cJ cZ cV cR) (kW cI cJ cZ cV cR a C) sz)) xNo (xXC D (tyK cI cJ cZ cV cR) "java/lang/IndexOutOfBoundsException" (fun u : CT => u = C) (kW cI cJ cZ cV cR a) (va_A (kW cI cJ cZ cV cR a C) sz)) 1 6 (va_A (kW cI cJ cZ cV cR a C) sz) := by
  obtain ⟨hn, hfn, hsn, hvc, hrc, hpc, hnw, hkc, h_home, h_kin, h_alv, h_srs, h_row, h_sp, h_kis, h_pg⟩ := id hM
  refine vx_ofW (cc := cX5_letGo) (maxL := 3) (ret := (some .int)) (by decide) rfl ?_
  intro p e s m args below meth c s₁ B hml hout hv
  obtain ⟨rfl, ⟨hsz, hP, hK, hD0⟩, hXE⟩ := hv
  have hx := B.exec
  have hb := B.bytes
  have hr := B.returns
  have hts := atoms_spec (ws := wsX5_letGo) B.pre
  have hown : s.vm.findClass RX5 = some m.cls := findClass_of_methodNamed B.named
  have hlocks := B.notSynchronized
  subst hsz
  have hD := hD0.self (sz := s.heap.size)
  generalize hAe : va_A (kW cI cJ cZ cV cR a C) s.heap.size = A at hD hXE ⊢
  have hA : ∀ q : Nat, s.heap.size ≤ q → A q := fun q h => by rw [← hAe]; exact Or.inr h
  have hS : va_S A s.heap s.heap [] := va_S.rf
  have hP : va_P D vwCl (kX cI cJ cZ cV cR a (k_ra C) (k_rb C) (k_vc C) (k_rc C) (k_pc C) (k_nw C) (k_n C) (k_fn C) (k_sn C) (k_kc C) (k_grp C) (k_key C) (k_srt C) (k_wt C) (k_home C) (k_drp C) (k_met C) (k_kin C) (k_alv C) (k_srs C) (k_row C) (k_sp C) (k_kis C) (k_pg C) (k_vq C) (k_rq C) (k_L C) (k_F C)) s.heap := hP
  have hD : va_D A (kX cI cJ cZ cV cR a (k_ra C) (k_rb C) (k_vc C) (k_rc C) (k_pc C) (k_nw C) (k_n C) (k_fn C) (k_sn C) (k_kc C) (k_grp C) (k_key C) (k_srt C) (k_wt C) (k_home C) (k_drp C) (k_met C) (k_kin C) (k_alv C) (k_srs C) (k_row C) (k_sp C) (k_kis C) (k_pg C) (k_vq C) (k_rq C) (k_L C) (k_F C)) := hD
  have hl := lv_entry ([.ref (a 0), .int (x)]) (n := 3) (Nat.le_of_ble_eq_true rfl)
  rw [lg_entry_eq]
  generalize (lg_sl ([.ref (a 0), .int (x)]) ++ List.replicate (3 - (lg_sl ([.ref (a 0), .int (x)])).length) Slot.unset).toArray = ls at hl ⊢
  have hl : lv_has ls 3 [(0, .ref (a 0)), (1, .int (x))] := hl
  refine lv_aload_n hx hb dX5_letGo_0 rfl (lv_at hl 0 rfl) ?_
  refine lv_iload_n hx hb dX5_letGo_1 rfl (lv_at hl 1 rfl) ?_
  have hPm : va_P D vwCl (kW cI cJ cZ cV cR a C) s.heap := by exact hP
  have hDm : va_D A (kW cI cJ cZ cV cR a C) := by exact hD
  refine wx_V (As := [.int (x)]) (rest := []) (wf := kW cI cJ cZ cV cR a) ⟨hx, hb, hml, hown, hts⟩ (x_X5_viewAt l htr D cI cJ cZ cV cR a C hM x hbad s.heap.size) (cwV 1 hts gX5_letGo_X5_viewAt rfl rfl rfl (by decide +kernel) ⟨Nat.le_of_ble_eq_true rfl, Nat.le_of_ble_eq_true rfl⟩) hPm hK hDm hS hA hXE 0 rfl rfl rfl hl.1 rfl (Nat.le_of_ble_eq_true rfl) dX5_letGo_2 ⟨Nat.le_of_ble_eq_true rfl, Nat.le_of_ble_eq_true rfl⟩ (fun u hu H locs ce q9 hP hD hS hce hcv hcl => ?_)
  exact vx_out (fun x h => (hout x h).elim) hlocks hce hcv hcl (xxc_eq u hu hP hK hD hS) hS.2.2 (Nat.le_refl _) (Nat.le_refl _)
def rmx_X5_letGo_o : Room := { frames := 7, cells := 1, slots := 6, locals := 102 }
set_option maxHeartbeats 4000000 in
set_option maxRecDepth 100000 in
/-- not open -/
theorem x_X5_letGo_o (l : Launch) (htr : l.stackTraces = false) (D : va_G) (cI cJ cZ cV cR : ClassId) (a : Nat → Nat) (C : CT) (hM : kOk C) (q hs se c9 g9 st9 r9 sn9 : Nat) (sf : Nat → Bool) (hV : isV (k_L C) (k_F C) q hs se c9 g9 st9 r9) (hc9 : c9 ≤ 300) (hg9 : g9 ≤ 300) (hst9 : st9 ≤ 2) (hr9 : r9 ≤ 60) (hZ : isZ cZ (k_L C) (k_F C) se sn9 sf) (hsn9 : sn9 ≤ 40) (hpos : st9 ≠ 2 → ∀ i, i < sn9 → sf i = true → 0 < k_srs C i) (i : Nat) (hi9 : i < k_vc C) (hq9 : k_vq C i = some q) (hbad : st9 ≠ 0) (sz : Nat) : vx_Met l yX5_letGo wsX5_letGo rmx_X5_letGo_o (va_Pc [.ref (a 0), .int (nI (i))] (GX D (tyK cI cJ cZ cV cR) (kW cI cJ cZ cV cR a C) sz)) xNo (xXC D (tyK cI cJ cZ cV cR) "java/lang/IllegalStateException" (fun u : CT => u = C) (kW cI cJ cZ cV cR a) (va_A (kW cI cJ cZ cV cR a C) sz)) 1 6 (va_A (kW cI cJ cZ cV cR a C) sz) := by
  obtain ⟨hn, hfn, hsn, hvc, hrc, hpc, hnw, hkc, h_home, h_kin, h_alv, h_srs, h_row, h_sp, h_kis, h_pg⟩ := id hM
  refine vx_ofW (cc := cX5_letGo) (maxL := 3) (ret := (some .int)) (by decide) rfl ?_
  intro p e s m args below meth c s₁ B hml hout hv
  obtain ⟨rfl, ⟨hsz, hP, hK, hD0⟩, hXE⟩ := hv
  have hx := B.exec
  have hb := B.bytes
  have hr := B.returns
  have hts := atoms_spec (ws := wsX5_letGo) B.pre
  have hown : s.vm.findClass RX5 = some m.cls := findClass_of_methodNamed B.named
  have hlocks := B.notSynchronized
  subst hsz
  have hD := hD0.self (sz := s.heap.size)
  generalize hAe : va_A (kW cI cJ cZ cV cR a C) s.heap.size = A at hD hXE ⊢
  have hA : ∀ q : Nat, s.heap.size ≤ q → A q := fun q h => by rw [← hAe]; exact Or.inr h
  have hS : va_S A s.heap s.heap [] := va_S.rf
  have hP : va_P D vwCl (kX cI cJ cZ cV cR a (k_ra C) (k_rb C) (k_vc C) (k_rc C) (k_pc C) (k_nw C) (k_n C) (k_fn C) (k_sn C) (k_kc C) (k_grp C) (k_key C) (k_srt C) (k_wt C) (k_home C) (k_drp C) (k_met C) (k_kin C) (k_alv C) (k_srs C) (k_row C) (k_sp C) (k_kis C) (k_pg C) (k_vq C) (k_rq C) (k_L C) (k_F C)) s.heap := hP
  have hD : va_D A (kX cI cJ cZ cV cR a (k_ra C) (k_rb C) (k_vc C) (k_rc C) (k_pc C) (k_nw C) (k_n C) (k_fn C) (k_sn C) (k_kc C) (k_grp C) (k_key C) (k_srt C) (k_wt C) (k_home C) (k_drp C) (k_met C) (k_kin C) (k_alv C) (k_srs C) (k_row C) (k_sp C) (k_kis C) (k_pg C) (k_vq C) (k_rq C) (k_L C) (k_F C)) := hD
  have hl := lv_entry ([.ref (a 0), .int (nI (i))]) (n := 3) (Nat.le_of_ble_eq_true rfl)
  rw [lg_entry_eq]
  generalize (lg_sl ([.ref (a 0), .int (nI (i))]) ++ List.replicate (3 - (lg_sl ([.ref (a 0), .int (nI (i))])).length) Slot.unset).toArray = ls at hl ⊢
  have hl : lv_has ls 3 [(0, .ref (a 0)), (1, .int (nI (i)))] := hl
  refine lv_aload_n hx hb dX5_letGo_0 rfl (lv_at hl 0 rfl) ?_
  refine lv_iload_n hx hb dX5_letGo_1 rfl (lv_at hl 1 rfl) ?_
  have hPm : va_P D vwCl (kW cI cJ cZ cV cR a C) s.heap := by exact hP
  have hDm : va_D A (kW cI cJ cZ cV cR a C) := by exact hD
  refine wc_VWr (As := [.int (nI (i))]) (rest := []) (ra := Prod.fst) (wf := fun u => kW cI cJ cZ cV cR a u.2) ⟨hx, hb, hml, hown, hts⟩ (c_X5_viewAt l D cI cJ cZ cV cR a C hM (i) (q) (by omega) hq9 s.heap.size) (cwV 1 hts gX5_letGo_X5_viewAt rfl rfl rfl (by decide +kernel) ⟨Nat.le_of_ble_eq_true rfl, Nat.le_of_ble_eq_true rfl⟩) hPm hK hDm hS hA 0 rfl rfl rfl hl.1 rfl (Nat.le_of_ble_eq_true rfl) dX5_letGo_2 ⟨Nat.le_of_ble_eq_true rfl, Nat.le_of_ble_eq_true rfl⟩ (fun u1 hq1 H locs hP hD hS => ?_)
  have hu1 := hq1
  subst hu1
  have hP : va_P D vwCl (kX cI cJ cZ cV cR a (k_ra C) (k_rb C) (k_vc C) (k_rc C) (k_pc C) (k_nw C) (k_n C) (k_fn C) (k_sn C) (k_kc C) (k_grp C) (k_key C) (k_srt C) (k_wt C) (k_home C) (k_drp C) (k_met C) (k_kin C) (k_alv C) (k_srs C) (k_row C) (k_sp C) (k_kis C) (k_pg C) (k_vq C) (k_rq C) (k_L C) (k_F C)) H := hP
  have hD : va_D A (kX cI cJ cZ cV cR a (k_ra C) (k_rb C) (k_vc C) (k_rc C) (k_pc C) (k_nw C) (k_n C) (k_fn C) (k_sn C) (k_kc C) (k_grp C) (k_key C) (k_srt C) (k_wt C) (k_home C) (k_drp C) (k_met C) (k_kin C) (k_alv C) (k_srs C) (k_row C) (k_sp C) (k_kis C) (k_pg C) (k_vq C) (k_rq C) (k_L C) (k_F C)) := hD
  refine lv_astore_n (lv' := [(2, .ref (q)), (0, .ref (a 0)), (1, .int (nI (i)))]) hx hb dX5_letGo_5 rfl hl (by decide) rfl (fun ls hl => ?_)
  refine lv_aload_n hx hb dX5_letGo_6 rfl (lv_at hl 0 rfl) ?_
  have hPm : va_P D vwCl (kW cI cJ cZ cV cR a C) H := by exact hP
  have hDm : va_D A (kW cI cJ cZ cV cR a C) := by exact hD
  refine wx_S (As := [.ref (q)]) (rest := []) (wf := kW cI cJ cZ cV cR a) ⟨hx, hb, hml, hown, hts⟩ (x_X5_checkOpen l htr D cI cJ cZ cV cR a C hM q hs se c9 g9 st9 r9 hV hc9 hg9 hst9 hr9 hbad H.size) (va_cwS 1 hts gX5_letGo_X5_checkOpen rfl rfl rfl (by decide +kernel) ⟨Nat.le_of_ble_eq_true rfl, Nat.le_of_ble_eq_true rfl⟩) hPm hK hDm hS hA hXE rfl hl.1 rfl (Nat.le_of_ble_eq_true rfl) dX5_letGo_7 ⟨Nat.le_of_ble_eq_true rfl, Nat.le_of_ble_eq_true rfl⟩ (fun u hu H locs ce q9 hP hD hS hce hcv hcl => ?_)
  exact vx_out (fun x h => (hout x h).elim) hlocks hce hcv hcl (xxc_eq u hu hP hK hD hS) hS.2.2 (Nat.le_refl _) (Nat.le_refl _)
def rm_X5_left : Room := { frames := 1, cells := 0, slots := 0, locals := 22 }
set_option maxHeartbeats 4000000 in
set_option maxRecDepth 100000 in
/-- how many are left -/
theorem c_X5_left (l : Launch) (D : va_G) (cI cJ cZ cV cR : ClassId) (a : Nat → Nat) (C : CT) (hM : kOk C) (q v hs : Nat) (cu : Bool) (kp gv en : Nat) (ed : Bool) (n9 : Nat) (f9 : Nat → Nat) (hR : isR (k_L C) (k_F C) q v hs cu kp gv en ed) (hI : isI cI (k_L C) (k_F C) hs n9 f9) (hn9 : n9 ≤ 300) (hgv : gv ≤ n9) (hkp : kp ≤ 1000) (hen : en ≤ 2000000000) (j9 : Nat) (hj9 : j9 < k_rc C) (hq9 : k_rq C j9 = some q) (sz : Nat) : Met l yX5_left wsX5_left rm_X5_left (va_Pc [.ref (a 0), .int (nI (j9))] (GW D (tyK cI cJ cZ cV cR) (kW cI cJ cZ cV cR a C) sz)) (va_Qi (fun rr u => rr = (if ed then zI (-1) else nI (n9 - gv)) ∧ u = C) (fun u => GB D (tyK cI cJ cZ cV cR) (va_A (kW cI cJ cZ cV cR a C) sz) (kW cI cJ cZ cV cR a u)) (va_A (kW cI cJ cZ cV cR a C) sz)) 0 0 (va_A (kW cI cJ cZ cV cR a C) sz) := by
  obtain ⟨hn, hfn, hsn, hvc, hrc, hpc, hnw, hkc, h_home, h_kin, h_alv, h_srs, h_row, h_sp, h_kis, h_pg⟩ := id hM
  refine Met.ofW (cc := cX5_left) (maxL := 3) (ret := (some .int)) (by decide) rfl ?_
  intro p e s m args below meth c s₁ B hml hv
  obtain ⟨rfl, hsz, hP, hK, hD0⟩ := hv
  have hx := B.exec
  have hb := B.bytes
  have hr := B.returns
  have hts := atoms_spec (ws := wsX5_left) B.pre
  have hown : s.vm.findClass RX5 = some m.cls := findClass_of_methodNamed B.named
  have hlocks := B.notSynchronized
  subst hsz
  have hD := hD0.self (sz := s.heap.size)
  generalize hAe : va_A (kW cI cJ cZ cV cR a C) s.heap.size = A at hD ⊢
  have hA : ∀ q : Nat, s.heap.size ≤ q → A q := fun q h => by rw [← hAe]; exact Or.inr h
  have hS : va_S A s.heap s.heap [] := va_S.rf
  have hP : va_P D vwCl (kX cI cJ cZ cV cR a (k_ra C) (k_rb C) (k_vc C) (k_rc C) (k_pc C) (k_nw C) (k_n C) (k_fn C) (k_sn C) (k_kc C) (k_grp C) (k_key C) (k_srt C) (k_wt C) (k_home C) (k_drp C) (k_met C) (k_kin C) (k_alv C) (k_srs C) (k_row C) (k_sp C) (k_kis C) (k_pg C) (k_vq C) (k_rq C) (k_L C) (k_F C)) s.heap := hP
  have hD : va_D A (kX cI cJ cZ cV cR a (k_ra C) (k_rb C) (k_vc C) (k_rc C) (k_pc C) (k_nw C) (k_n C) (k_fn C) (k_sn C) (k_kc C) (k_grp C) (k_key C) (k_srt C) (k_wt C) (k_home C) (k_drp C) (k_met C) (k_kin C) (k_alv C) (k_srs C) (k_row C) (k_sp C) (k_kis C) (k_pg C) (k_vq C) (k_rq C) (k_L C) (k_F C)) := hD
  have hiX1 : ∀ w ∈ wsX10, w ∈ wsX5_left := by decide +kernel
  have hf0 := hts (.fieldLink RX5 237 "GroupCursors$Reader" "ended" "Z") (by decide +kernel)
  have hl := lv_entry ([.ref (a 0), .int (nI (j9))]) (n := 3) (Nat.le_of_ble_eq_true rfl)
  rw [lg_entry_eq]
  generalize (lg_sl ([.ref (a 0), .int (nI (j9))]) ++ List.replicate (3 - (lg_sl ([.ref (a 0), .int (nI (j9))])).length) Slot.unset).toArray = ls at hl ⊢
  have hl : lv_has ls 3 [(0, .ref (a 0)), (1, .int (nI (j9)))] := hl
  refine lv_aload_n hx hb dX5_left_0 rfl (lv_at hl 0 rfl) ?_
  refine lv_iload_n hx hb dX5_left_1 rfl (lv_at hl 1 rfl) ?_
  have hPm : va_P D vwCl (kW cI cJ cZ cV cR a C) s.heap := by exact hP
  have hDm : va_D A (kW cI cJ cZ cV cR a C) := by exact hD
  refine wc_VWr (As := [.int (nI (j9))]) (rest := []) (ra := Prod.fst) (wf := fun u => kW cI cJ cZ cV cR a u.2) ⟨hx, hb, hml, hown, hts⟩ (c_X5_readerAt l D cI cJ cZ cV cR a C hM (j9) (q) (by omega) hq9 s.heap.size) (cwV 1 hts gX5_left_X5_readerAt rfl rfl rfl (by decide +kernel) ⟨Nat.le_of_ble_eq_true rfl, Nat.le_of_ble_eq_true rfl⟩) hPm hK hDm hS hA 0 rfl rfl rfl hl.1 rfl (Nat.le_of_ble_eq_true rfl) dX5_left_2 ⟨Nat.le_of_ble_eq_true rfl, Nat.le_of_ble_eq_true rfl⟩ (fun u1 hq1 H locs hP hD hS => ?_)
  have hu1 := hq1
  subst hu1
  have hP : va_P D vwCl (kX cI cJ cZ cV cR a (k_ra C) (k_rb C) (k_vc C) (k_rc C) (k_pc C) (k_nw C) (k_n C) (k_fn C) (k_sn C) (k_kc C) (k_grp C) (k_key C) (k_srt C) (k_wt C) (k_home C) (k_drp C) (k_met C) (k_kin C) (k_alv C) (k_srs C) (k_row C) (k_sp C) (k_kis C) (k_pg C) (k_vq C) (k_rq C) (k_L C) (k_F C)) H := hP
  have hD : va_D A (kX cI cJ cZ cV cR a (k_ra C) (k_rb C) (k_vc C) (k_rc C) (k_pc C) (k_nw C) (k_n C) (k_fn C) (k_sn C) (k_kc C) (k_grp C) (k_key C) (k_srt C) (k_wt C) (k_home C) (k_drp C) (k_met C) (k_kin C) (k_alv C) (k_srs C) (k_row C) (k_sp C) (k_kis C) (k_pg C) (k_vq C) (k_rq C) (k_L C) (k_F C)) := hD
  refine lv_astore_n (lv' := [(2, .ref (q)), (0, .ref (a 0)), (1, .int (nI (j9)))]) hx hb dX5_left_5 rfl hl (by decide) rfl (fun ls hl => ?_)
  refine lv_aload_n hx hb dX5_left_6 rfl (lv_at hl 0 rfl) ?_
  refine wp_get (ci := 1) (v := .int (bI (ed))) (C := RX1) (T := TX1) (N := 7) hx hb hts hiX1 hown hK hP hR.1 hR.2 rfl 6 (by decide) hf0 (fun _ h9 => h9) rfl dX5_left_7 ?_
  refine wb_if_eq (tgt := 17) hx hb dX5_left_10 (by decide) (fun c10_2 => ?_) (fun c10_2 => ?_)
  · refine lv_aload_n hx hb dX5_left_17 rfl (lv_at hl 0 rfl) ?_
    have hPm : va_P D vwCl (kW cI cJ cZ cV cR a C) H := by exact hP
    have hDm : va_D A (kW cI cJ cZ cV cR a C) := by exact hD
    obtain ⟨k3, hk3⟩ := kW_at (cI := cI) (cJ := cJ) (cZ := cZ) (cV := cV) (cR := cR) (a := a) (C := C) (e := .inr (1, [.ref (v), .ref (hs), .int (bI (cu)), .int (nI (kp)), .int (nI (gv)), .int (nI (en)), .int (bI (ed))])) hR
    refine wc_VWi (As := []) (rest := []) (wf := kW cI cJ cZ cV cR a) ⟨hx, hb, hml, hown, hts⟩ (c_X1_countLeft l D cI cJ cZ cV cR a C hM (q) (v) (hs) (cu) (kp) (gv) (en) (ed) (n9) (f9) hR hI (by omega) (by omega) (by omega) (by omega) H.size) (cwV 0 hts gX5_left_X1_countLeft rfl rfl rfl (by decide +kernel) ⟨Nat.le_of_ble_eq_true rfl, Nat.le_of_ble_eq_true rfl⟩) hPm hK hDm hS hA k3 hk3 rfl rfl hl.1 rfl (Nat.le_of_ble_eq_true rfl) dX5_left_18 ⟨Nat.zero_le _, Nat.zero_le _⟩ (fun rr u3 hq3 H locs hP hD hS => ?_)
    obtain ⟨hr3, hu3⟩ := hq3
    subst hr3
    have hu3 := hu3.symm
    subst hu3
    have hP : va_P D vwCl (kX cI cJ cZ cV cR a (k_ra C) (k_rb C) (k_vc C) (k_rc C) (k_pc C) (k_nw C) (k_n C) (k_fn C) (k_sn C) (k_kc C) (k_grp C) (k_key C) (k_srt C) (k_wt C) (k_home C) (k_drp C) (k_met C) (k_kin C) (k_alv C) (k_srs C) (k_row C) (k_sp C) (k_kis C) (k_pg C) (k_vq C) (k_rq C) (k_L C) (k_F C)) H := hP
    have hD : va_D A (kX cI cJ cZ cV cR a (k_ra C) (k_rb C) (k_vc C) (k_rc C) (k_pc C) (k_nw C) (k_n C) (k_fn C) (k_sn C) (k_kc C) (k_grp C) (k_key C) (k_srt C) (k_wt C) (k_home C) (k_drp C) (k_met C) (k_kin C) (k_alv C) (k_srs C) (k_row C) (k_sp C) (k_kis C) (k_pg C) (k_vq C) (k_rq C) (k_L C) (k_F C)) := hD
    have hPm : va_P D vwCl (kW cI cJ cZ cV cR a C) H := by exact hP
    have hDm : va_D A (kW cI cJ cZ cV cR a C) := by exact hD
    exact W.iret (v := nI (n9 - gv)) hx hb hr (fun t ht hW => ⟨⟨_, C, rfl, ⟨by rw [if_neg (by rw [c10_2]; decide)], rfl⟩, gb_mk ht hW hPm hK hDm⟩, hS.F ht⟩) hS.2.2 dX5_left_21
  · refine lv_iconst (v := zI ((-1))) hx hb dX5_left_13 (by decide) ?_
    refine lv_goto (tgt := 21) hx hb dX5_left_14 (by decide) ?_
    have hPm : va_P D vwCl (kW cI cJ cZ cV cR a C) H := by exact hP
    have hDm : va_D A (kW cI cJ cZ cV cR a C) := by exact hD
    exact W.iret (v := zI ((-1))) hx hb hr (fun t ht hW => ⟨⟨_, C, rfl, ⟨by rw [if_pos c10_2], rfl⟩, gb_mk ht hW hPm hK hDm⟩, hS.F ht⟩) hS.2.2 dX5_left_21
def rmx_X5_left : Room := { frames := 7, cells := 1, slots := 6, locals := 104 }
set_option maxHeartbeats 4000000 in
set_option maxRecDepth 100000 in
/-- no such reader -/
theorem x_X5_left (l : Launch) (htr : l.stackTraces = false) (D : va_G) (cI cJ cZ cV cR : ClassId) (a : Nat → Nat) (C : CT) (hM : kOk C) (x : Int32) (hbad : x.toInt < 0 ∨ ((k_rc C : Nat) : Int) ≤ x.toInt) (sz : Nat) : vx_Met l yX5_left wsX5_left rmx_X5_left (va_Pc [.ref (a 0), .int (x)] (GX D (tyK cI cJ cZ cV cR) (kW cI cJ cZ cV cR a C) sz)) xNo (xXC D (tyK cI cJ cZ cV cR) "java/lang/IndexOutOfBoundsException" (fun u : CT => u = C) (kW cI cJ cZ cV cR a) (va_A (kW cI cJ cZ cV cR a C) sz)) 1 6 (va_A (kW cI cJ cZ cV cR a C) sz) := by
  obtain ⟨hn, hfn, hsn, hvc, hrc, hpc, hnw, hkc, h_home, h_kin, h_alv, h_srs, h_row, h_sp, h_kis, h_pg⟩ := id hM
  refine vx_ofW (cc := cX5_left) (maxL := 3) (ret := (some .int)) (by decide) rfl ?_
  intro p e s m args below meth c s₁ B hml hout hv
  obtain ⟨rfl, ⟨hsz, hP, hK, hD0⟩, hXE⟩ := hv
  have hx := B.exec
  have hb := B.bytes
  have hr := B.returns
  have hts := atoms_spec (ws := wsX5_left) B.pre
  have hown : s.vm.findClass RX5 = some m.cls := findClass_of_methodNamed B.named
  have hlocks := B.notSynchronized
  subst hsz
  have hD := hD0.self (sz := s.heap.size)
  generalize hAe : va_A (kW cI cJ cZ cV cR a C) s.heap.size = A at hD hXE ⊢
  have hA : ∀ q : Nat, s.heap.size ≤ q → A q := fun q h => by rw [← hAe]; exact Or.inr h
  have hS : va_S A s.heap s.heap [] := va_S.rf
  have hP : va_P D vwCl (kX cI cJ cZ cV cR a (k_ra C) (k_rb C) (k_vc C) (k_rc C) (k_pc C) (k_nw C) (k_n C) (k_fn C) (k_sn C) (k_kc C) (k_grp C) (k_key C) (k_srt C) (k_wt C) (k_home C) (k_drp C) (k_met C) (k_kin C) (k_alv C) (k_srs C) (k_row C) (k_sp C) (k_kis C) (k_pg C) (k_vq C) (k_rq C) (k_L C) (k_F C)) s.heap := hP
  have hD : va_D A (kX cI cJ cZ cV cR a (k_ra C) (k_rb C) (k_vc C) (k_rc C) (k_pc C) (k_nw C) (k_n C) (k_fn C) (k_sn C) (k_kc C) (k_grp C) (k_key C) (k_srt C) (k_wt C) (k_home C) (k_drp C) (k_met C) (k_kin C) (k_alv C) (k_srs C) (k_row C) (k_sp C) (k_kis C) (k_pg C) (k_vq C) (k_rq C) (k_L C) (k_F C)) := hD
  have hl := lv_entry ([.ref (a 0), .int (x)]) (n := 3) (Nat.le_of_ble_eq_true rfl)
  rw [lg_entry_eq]
  generalize (lg_sl ([.ref (a 0), .int (x)]) ++ List.replicate (3 - (lg_sl ([.ref (a 0), .int (x)])).length) Slot.unset).toArray = ls at hl ⊢
  have hl : lv_has ls 3 [(0, .ref (a 0)), (1, .int (x))] := hl
  refine lv_aload_n hx hb dX5_left_0 rfl (lv_at hl 0 rfl) ?_
  refine lv_iload_n hx hb dX5_left_1 rfl (lv_at hl 1 rfl) ?_
  have hPm : va_P D vwCl (kW cI cJ cZ cV cR a C) s.heap := by exact hP
  have hDm : va_D A (kW cI cJ cZ cV cR a C) := by exact hD
  refine wx_V (As := [.int (x)]) (rest := []) (wf := kW cI cJ cZ cV cR a) ⟨hx, hb, hml, hown, hts⟩ (x_X5_readerAt l htr D cI cJ cZ cV cR a C hM x hbad s.heap.size) (cwV 1 hts gX5_left_X5_readerAt rfl rfl rfl (by decide +kernel) ⟨Nat.le_of_ble_eq_true rfl, Nat.le_of_ble_eq_true rfl⟩) hPm hK hDm hS hA hXE 0 rfl rfl rfl hl.1 rfl (Nat.le_of_ble_eq_true rfl) dX5_left_2 ⟨Nat.le_of_ble_eq_true rfl, Nat.le_of_ble_eq_true rfl⟩ (fun u hu H locs ce q9 hP hD hS hce hcv hcl => ?_)
  exact vx_out (fun x h => (hout x h).elim) hlocks hce hcv hcl (xxc_eq u hu hP hK hD hS) hS.2.2 (Nat.le_refl _) (Nat.le_refl _)
def rmx_X5_close : Room := { frames := 7, cells := 1, slots := 6, locals := 104 }
set_option maxHeartbeats 4000000 in
set_option maxRecDepth 100000 in
/-- no such reader -/
theorem x_X5_close (l : Launch) (htr : l.stackTraces = false) (D : va_G) (cI cJ cZ cV cR : ClassId) (a : Nat → Nat) (C : CT) (hM : kOk C) (x : Int32) (hbad : x.toInt < 0 ∨ ((k_rc C : Nat) : Int) ≤ x.toInt) (sz : Nat) : vx_Met l yX5_close wsX5_close rmx_X5_close (va_Pc [.ref (a 0), .int (x)] (GX D (tyK cI cJ cZ cV cR) (kW cI cJ cZ cV cR a C) sz)) xNo (xXC D (tyK cI cJ cZ cV cR) "java/lang/IndexOutOfBoundsException" (fun u : CT => u = C) (kW cI cJ cZ cV cR a) (va_A (kW cI cJ cZ cV cR a C) sz)) 1 6 (va_A (kW cI cJ cZ cV cR a C) sz) := by
  obtain ⟨hn, hfn, hsn, hvc, hrc, hpc, hnw, hkc, h_home, h_kin, h_alv, h_srs, h_row, h_sp, h_kis, h_pg⟩ := id hM
  refine vx_ofW (cc := cX5_close) (maxL := 2) (ret := (some .int)) (by decide) rfl ?_
  intro p e s m args below meth c s₁ B hml hout hv
  obtain ⟨rfl, ⟨hsz, hP, hK, hD0⟩, hXE⟩ := hv
  have hx := B.exec
  have hb := B.bytes
  have hr := B.returns
  have hts := atoms_spec (ws := wsX5_close) B.pre
  have hown : s.vm.findClass RX5 = some m.cls := findClass_of_methodNamed B.named
  have hlocks := B.notSynchronized
  subst hsz
  have hD := hD0.self (sz := s.heap.size)
  generalize hAe : va_A (kW cI cJ cZ cV cR a C) s.heap.size = A at hD hXE ⊢
  have hA : ∀ q : Nat, s.heap.size ≤ q → A q := fun q h => by rw [← hAe]; exact Or.inr h
  have hS : va_S A s.heap s.heap [] := va_S.rf
  have hP : va_P D vwCl (kX cI cJ cZ cV cR a (k_ra C) (k_rb C) (k_vc C) (k_rc C) (k_pc C) (k_nw C) (k_n C) (k_fn C) (k_sn C) (k_kc C) (k_grp C) (k_key C) (k_srt C) (k_wt C) (k_home C) (k_drp C) (k_met C) (k_kin C) (k_alv C) (k_srs C) (k_row C) (k_sp C) (k_kis C) (k_pg C) (k_vq C) (k_rq C) (k_L C) (k_F C)) s.heap := hP
  have hD : va_D A (kX cI cJ cZ cV cR a (k_ra C) (k_rb C) (k_vc C) (k_rc C) (k_pc C) (k_nw C) (k_n C) (k_fn C) (k_sn C) (k_kc C) (k_grp C) (k_key C) (k_srt C) (k_wt C) (k_home C) (k_drp C) (k_met C) (k_kin C) (k_alv C) (k_srs C) (k_row C) (k_sp C) (k_kis C) (k_pg C) (k_vq C) (k_rq C) (k_L C) (k_F C)) := hD
  have hl := lv_entry ([.ref (a 0), .int (x)]) (n := 2) (Nat.le_of_ble_eq_true rfl)
  rw [lg_entry_eq]
  generalize (lg_sl ([.ref (a 0), .int (x)]) ++ List.replicate (2 - (lg_sl ([.ref (a 0), .int (x)])).length) Slot.unset).toArray = ls at hl ⊢
  have hl : lv_has ls 2 [(0, .ref (a 0)), (1, .int (x))] := hl
  refine lv_aload_n hx hb dX5_close_0 rfl (lv_at hl 0 rfl) ?_
  refine lv_aload_n hx hb dX5_close_1 rfl (lv_at hl 0 rfl) ?_
  refine lv_iload_n hx hb dX5_close_2 rfl (lv_at hl 1 rfl) ?_
  have hPm : va_P D vwCl (kW cI cJ cZ cV cR a C) s.heap := by exact hP
  have hDm : va_D A (kW cI cJ cZ cV cR a C) := by exact hD
  refine wx_V (As := [.int (x)]) (rest := [.ref (a 0)]) (wf := kW cI cJ cZ cV cR a) ⟨hx, hb, hml, hown, hts⟩ (x_X5_readerAt l htr D cI cJ cZ cV cR a C hM x hbad s.heap.size) (cwV 1 hts gX5_close_X5_readerAt rfl rfl rfl (by decide +kernel) ⟨Nat.le_of_ble_eq_true rfl, Nat.le_of_ble_eq_true rfl⟩) hPm hK hDm hS hA hXE 0 rfl rfl rfl hl.1 rfl (Nat.le_of_ble_eq_true rfl) dX5_close_3 ⟨Nat.le_of_ble_eq_true rfl, Nat.le_of_ble_eq_true rfl⟩ (fun u hu H locs ce q9 hP hD hS hce hcv hcl => ?_)
  exact vx_out (fun x h => (hout x h).elim) hlocks hce hcv hcl (xxc_eq u hu hP hK hD hS) hS.2.2 (Nat.le_refl _) (Nat.le_refl _)
def rm_X5_close : Room := { frames := 4, cells := 0, slots := 0, locals := 86 }
set_option maxHeartbeats 4000000 in
set_option maxRecDepth 100000 in
/-- a reader is closed -/
theorem c_X5_close (l : Launch) (D : va_G) (cI cJ cZ cV cR : ClassId) (a : Nat → Nat) (C : CT) (hM : kOk C) (q v hs : Nat) (cu : Bool) (kp gv en : Nat) (ed : Bool) (n9 : Nat) (f9 : Nat → Nat) (hR : isR (k_L C) (k_F C) q v hs cu kp gv en ed) (hI : isI cI (k_L C) (k_F C) hs n9 f9) (hn9 : n9 ≤ 300) (hgv : gv ≤ n9) (hkp : kp ≤ 1000) (hen : en ≤ 2000000000) (vh se c9 g9 st9 r9 sn9 : Nat) (sf : Nat → Bool) (hV : isV (k_L C) (k_F C) v vh se c9 g9 st9 r9) (hc9 : c9 ≤ 300) (hg9 : g9 ≤ 300) (hst9 : st9 ≤ 2) (hr9 : r9 ≤ 60) (hZ : isZ cZ (k_L C) (k_F C) se sn9 sf) (hsn9 : sn9 ≤ 40) (hpos : st9 ≠ 2 → ∀ i, i < sn9 → sf i = true → 0 < k_srs C i) (hrr : ed = false → 0 < r9) (j9 : Nat) (hj9 : j9 < k_rc C) (hq9 : k_rq C j9 = some q) (sz : Nat) : Met l yX5_close wsX5_close rm_X5_close (va_Pc [.ref (a 0), .int (nI (j9))] (GW D (tyK cI cJ cZ cV cR) (kW cI cJ cZ cV cR a C) sz)) (va_Qi (fun rr u => rr = nI (erR C ed st9 r9 sn9 sf) ∧ u = erM C q v hs cu kp gv en ed vh se c9 g9 st9 r9 sn9 sf) (fun u => GB D (tyK cI cJ cZ cV cR) (va_A (kW cI cJ cZ cV cR a C) sz) (kW cI cJ cZ cV cR a u)) (va_A (kW cI cJ cZ cV cR a C) sz)) 0 0 (va_A (kW cI cJ cZ cV cR a C) sz) := by
  obtain ⟨hn, hfn, hsn, hvc, hrc, hpc, hnw, hkc, h_home, h_kin, h_alv, h_srs, h_row, h_sp, h_kis, h_pg⟩ := id hM
  refine Met.ofW (cc := cX5_close) (maxL := 2) (ret := (some .int)) (by decide) rfl ?_
  intro p e s m args below meth c s₁ B hml hv
  obtain ⟨rfl, hsz, hP, hK, hD0⟩ := hv
  have hx := B.exec
  have hb := B.bytes
  have hr := B.returns
  have hts := atoms_spec (ws := wsX5_close) B.pre
  have hown : s.vm.findClass RX5 = some m.cls := findClass_of_methodNamed B.named
  have hlocks := B.notSynchronized
  subst hsz
  have hD := hD0.self (sz := s.heap.size)
  generalize hAe : va_A (kW cI cJ cZ cV cR a C) s.heap.size = A at hD ⊢
  have hA : ∀ q : Nat, s.heap.size ≤ q → A q := fun q h => by rw [← hAe]; exact Or.inr h
  have hS : va_S A s.heap s.heap [] := va_S.rf
  have hP : va_P D vwCl (kX cI cJ cZ cV cR a (k_ra C) (k_rb C) (k_vc C) (k_rc C) (k_pc C) (k_nw C) (k_n C) (k_fn C) (k_sn C) (k_kc C) (k_grp C) (k_key C) (k_srt C) (k_wt C) (k_home C) (k_drp C) (k_met C) (k_kin C) (k_alv C) (k_srs C) (k_row C) (k_sp C) (k_kis C) (k_pg C) (k_vq C) (k_rq C) (k_L C) (k_F C)) s.heap := hP
  have hD : va_D A (kX cI cJ cZ cV cR a (k_ra C) (k_rb C) (k_vc C) (k_rc C) (k_pc C) (k_nw C) (k_n C) (k_fn C) (k_sn C) (k_kc C) (k_grp C) (k_key C) (k_srt C) (k_wt C) (k_home C) (k_drp C) (k_met C) (k_kin C) (k_alv C) (k_srs C) (k_row C) (k_sp C) (k_kis C) (k_pg C) (k_vq C) (k_rq C) (k_L C) (k_F C)) := hD
  have hl := lv_entry ([.ref (a 0), .int (nI (j9))]) (n := 2) (Nat.le_of_ble_eq_true rfl)
  rw [lg_entry_eq]
  generalize (lg_sl ([.ref (a 0), .int (nI (j9))]) ++ List.replicate (2 - (lg_sl ([.ref (a 0), .int (nI (j9))])).length) Slot.unset).toArray = ls at hl ⊢
  have hl : lv_has ls 2 [(0, .ref (a 0)), (1, .int (nI (j9)))] := hl
  refine lv_aload_n hx hb dX5_close_0 rfl (lv_at hl 0 rfl) ?_
  refine lv_aload_n hx hb dX5_close_1 rfl (lv_at hl 0 rfl) ?_
  refine lv_iload_n hx hb dX5_close_2 rfl (lv_at hl 1 rfl) ?_
  have hPm : va_P D vwCl (kW cI cJ cZ cV cR a C) s.heap := by exact hP
  have hDm : va_D A (kW cI cJ cZ cV cR a C) := by exact hD
  refine wc_VWr (As := [.int (nI (j9))]) (rest := [.ref (a 0)]) (ra := Prod.fst) (wf := fun u => kW cI cJ cZ cV cR a u.2) ⟨hx, hb, hml, hown, hts⟩ (c_X5_readerAt l D cI cJ cZ cV cR a C hM (j9) (q) (by omega) hq9 s.heap.size) (cwV 1 hts gX5_close_X5_readerAt rfl rfl rfl (by decide +kernel) ⟨Nat.le_of_ble_eq_true rfl, Nat.le_of_ble_eq_true rfl⟩) hPm hK hDm hS hA 0 rfl rfl rfl hl.1 rfl (Nat.le_of_ble_eq_true rfl) dX5_close_3 ⟨Nat.le_of_ble_eq_true rfl, Nat.le_of_ble_eq_true rfl⟩ (fun u1 hq1 H locs hP hD hS => ?_)
  have hu1 := hq1
  subst hu1
  have hP : va_P D vwCl (kX cI cJ cZ cV cR a (k_ra C) (k_rb C) (k_vc C) (k_rc C) (k_pc C) (k_nw C) (k_n C) (k_fn C) (k_sn C) (k_kc C) (k_grp C) (k_key C) (k_srt C) (k_wt C) (k_home C) (k_drp C) (k_met C) (k_kin C) (k_alv C) (k_srs C) (k_row C) (k_sp C) (k_kis C) (k_pg C) (k_vq C) (k_rq C) (k_L C) (k_F C)) H := hP
  have hD : va_D A (kX cI cJ cZ cV cR a (k_ra C) (k_rb C) (k_vc C) (k_rc C) (k_pc C) (k_nw C) (k_n C) (k_fn C) (k_sn C) (k_kc C) (k_grp C) (k_key C) (k_srt C) (k_wt C) (k_home C) (k_drp C) (k_met C) (k_kin C) (k_alv C) (k_srs C) (k_row C) (k_sp C) (k_kis C) (k_pg C) (k_vq C) (k_rq C) (k_L C) (k_F C)) := hD
  have hPm : va_P D vwCl (kW cI cJ cZ cV cR a C) H := by exact hP
  have hDm : va_D A (kW cI cJ cZ cV cR a C) := by exact hD
  refine wc_VWi (As := [.ref (q)]) (rest := []) (wf := kW cI cJ cZ cV cR a) ⟨hx, hb, hml, hown, hts⟩ (c_X5_endReader l D cI cJ cZ cV cR a C hM (q) (v) (hs) (cu) (kp) (gv) (en) (ed) (n9) (f9) hR hI (by omega) (by omega) (by omega) (by omega) (vh) (se) (c9) (g9) (st9) (r9) (sn9) (sf) hV (by omega) (by omega) (by omega) (by omega) hZ (by omega) (fun hz9 => (hpos (by omega))) hrr H.size) (cwV 1 hts gX5_close_X5_endReader rfl rfl rfl (by decide +kernel) ⟨Nat.le_of_ble_eq_true rfl, Nat.le_of_ble_eq_true rfl⟩) hPm hK hDm hS hA 0 rfl rfl rfl hl.1 rfl (Nat.le_of_ble_eq_true rfl) dX5_close_6 ⟨Nat.le_of_ble_eq_true rfl, Nat.le_of_ble_eq_true rfl⟩ (fun rr u2 hq2 H locs hP hD hS => ?_)
  obtain ⟨hr2, hu2⟩ := hq2
  subst hr2
  have hu2 := hu2.symm
  subst hu2
  have hP : va_P D vwCl (kX cI cJ cZ cV cR a (k_ra (erM C (q) (v) (hs) (cu) (kp) (gv) (en) (ed) (vh) (se) (c9) (g9) (st9) (r9) (sn9) (sf))) (k_rb (erM C (q) (v) (hs) (cu) (kp) (gv) (en) (ed) (vh) (se) (c9) (g9) (st9) (r9) (sn9) (sf))) (k_vc (erM C (q) (v) (hs) (cu) (kp) (gv) (en) (ed) (vh) (se) (c9) (g9) (st9) (r9) (sn9) (sf))) (k_rc (erM C (q) (v) (hs) (cu) (kp) (gv) (en) (ed) (vh) (se) (c9) (g9) (st9) (r9) (sn9) (sf))) (k_pc (erM C (q) (v) (hs) (cu) (kp) (gv) (en) (ed) (vh) (se) (c9) (g9) (st9) (r9) (sn9) (sf))) (k_nw (erM C (q) (v) (hs) (cu) (kp) (gv) (en) (ed) (vh) (se) (c9) (g9) (st9) (r9) (sn9) (sf))) (k_n (erM C (q) (v) (hs) (cu) (kp) (gv) (en) (ed) (vh) (se) (c9) (g9) (st9) (r9) (sn9) (sf))) (k_fn (erM C (q) (v) (hs) (cu) (kp) (gv) (en) (ed) (vh) (se) (c9) (g9) (st9) (r9) (sn9) (sf))) (k_sn (erM C (q) (v) (hs) (cu) (kp) (gv) (en) (ed) (vh) (se) (c9) (g9) (st9) (r9) (sn9) (sf))) (k_kc (erM C (q) (v) (hs) (cu) (kp) (gv) (en) (ed) (vh) (se) (c9) (g9) (st9) (r9) (sn9) (sf))) (k_grp (erM C (q) (v) (hs) (cu) (kp) (gv) (en) (ed) (vh) (se) (c9) (g9) (st9) (r9) (sn9) (sf))) (k_key (erM C (q) (v) (hs) (cu) (kp) (gv) (en) (ed) (vh) (se) (c9) (g9) (st9) (r9) (sn9) (sf))) (k_srt (erM C (q) (v) (hs) (cu) (kp) (gv) (en) (ed) (vh) (se) (c9) (g9) (st9) (r9) (sn9) (sf))) (k_wt (erM C (q) (v) (hs) (cu) (kp) (gv) (en) (ed) (vh) (se) (c9) (g9) (st9) (r9) (sn9) (sf))) (k_home (erM C (q) (v) (hs) (cu) (kp) (gv) (en) (ed) (vh) (se) (c9) (g9) (st9) (r9) (sn9) (sf))) (k_drp (erM C (q) (v) (hs) (cu) (kp) (gv) (en) (ed) (vh) (se) (c9) (g9) (st9) (r9) (sn9) (sf))) (k_met (erM C (q) (v) (hs) (cu) (kp) (gv) (en) (ed) (vh) (se) (c9) (g9) (st9) (r9) (sn9) (sf))) (k_kin (erM C (q) (v) (hs) (cu) (kp) (gv) (en) (ed) (vh) (se) (c9) (g9) (st9) (r9) (sn9) (sf))) (k_alv (erM C (q) (v) (hs) (cu) (kp) (gv) (en) (ed) (vh) (se) (c9) (g9) (st9) (r9) (sn9) (sf))) (k_srs (erM C (q) (v) (hs) (cu) (kp) (gv) (en) (ed) (vh) (se) (c9) (g9) (st9) (r9) (sn9) (sf))) (k_row (erM C (q) (v) (hs) (cu) (kp) (gv) (en) (ed) (vh) (se) (c9) (g9) (st9) (r9) (sn9) (sf))) (k_sp (erM C (q) (v) (hs) (cu) (kp) (gv) (en) (ed) (vh) (se) (c9) (g9) (st9) (r9) (sn9) (sf))) (k_kis (erM C (q) (v) (hs) (cu) (kp) (gv) (en) (ed) (vh) (se) (c9) (g9) (st9) (r9) (sn9) (sf))) (k_pg (erM C (q) (v) (hs) (cu) (kp) (gv) (en) (ed) (vh) (se) (c9) (g9) (st9) (r9) (sn9) (sf))) (k_vq (erM C (q) (v) (hs) (cu) (kp) (gv) (en) (ed) (vh) (se) (c9) (g9) (st9) (r9) (sn9) (sf))) (k_rq (erM C (q) (v) (hs) (cu) (kp) (gv) (en) (ed) (vh) (se) (c9) (g9) (st9) (r9) (sn9) (sf))) (k_L (erM C (q) (v) (hs) (cu) (kp) (gv) (en) (ed) (vh) (se) (c9) (g9) (st9) (r9) (sn9) (sf))) (k_F (erM C (q) (v) (hs) (cu) (kp) (gv) (en) (ed) (vh) (se) (c9) (g9) (st9) (r9) (sn9) (sf)))) H := hP
  have hD : va_D A (kX cI cJ cZ cV cR a (k_ra (erM C (q) (v) (hs) (cu) (kp) (gv) (en) (ed) (vh) (se) (c9) (g9) (st9) (r9) (sn9) (sf))) (k_rb (erM C (q) (v) (hs) (cu) (kp) (gv) (en) (ed) (vh) (se) (c9) (g9) (st9) (r9) (sn9) (sf))) (k_vc (erM C (q) (v) (hs) (cu) (kp) (gv) (en) (ed) (vh) (se) (c9) (g9) (st9) (r9) (sn9) (sf))) (k_rc (erM C (q) (v) (hs) (cu) (kp) (gv) (en) (ed) (vh) (se) (c9) (g9) (st9) (r9) (sn9) (sf))) (k_pc (erM C (q) (v) (hs) (cu) (kp) (gv) (en) (ed) (vh) (se) (c9) (g9) (st9) (r9) (sn9) (sf))) (k_nw (erM C (q) (v) (hs) (cu) (kp) (gv) (en) (ed) (vh) (se) (c9) (g9) (st9) (r9) (sn9) (sf))) (k_n (erM C (q) (v) (hs) (cu) (kp) (gv) (en) (ed) (vh) (se) (c9) (g9) (st9) (r9) (sn9) (sf))) (k_fn (erM C (q) (v) (hs) (cu) (kp) (gv) (en) (ed) (vh) (se) (c9) (g9) (st9) (r9) (sn9) (sf))) (k_sn (erM C (q) (v) (hs) (cu) (kp) (gv) (en) (ed) (vh) (se) (c9) (g9) (st9) (r9) (sn9) (sf))) (k_kc (erM C (q) (v) (hs) (cu) (kp) (gv) (en) (ed) (vh) (se) (c9) (g9) (st9) (r9) (sn9) (sf))) (k_grp (erM C (q) (v) (hs) (cu) (kp) (gv) (en) (ed) (vh) (se) (c9) (g9) (st9) (r9) (sn9) (sf))) (k_key (erM C (q) (v) (hs) (cu) (kp) (gv) (en) (ed) (vh) (se) (c9) (g9) (st9) (r9) (sn9) (sf))) (k_srt (erM C (q) (v) (hs) (cu) (kp) (gv) (en) (ed) (vh) (se) (c9) (g9) (st9) (r9) (sn9) (sf))) (k_wt (erM C (q) (v) (hs) (cu) (kp) (gv) (en) (ed) (vh) (se) (c9) (g9) (st9) (r9) (sn9) (sf))) (k_home (erM C (q) (v) (hs) (cu) (kp) (gv) (en) (ed) (vh) (se) (c9) (g9) (st9) (r9) (sn9) (sf))) (k_drp (erM C (q) (v) (hs) (cu) (kp) (gv) (en) (ed) (vh) (se) (c9) (g9) (st9) (r9) (sn9) (sf))) (k_met (erM C (q) (v) (hs) (cu) (kp) (gv) (en) (ed) (vh) (se) (c9) (g9) (st9) (r9) (sn9) (sf))) (k_kin (erM C (q) (v) (hs) (cu) (kp) (gv) (en) (ed) (vh) (se) (c9) (g9) (st9) (r9) (sn9) (sf))) (k_alv (erM C (q) (v) (hs) (cu) (kp) (gv) (en) (ed) (vh) (se) (c9) (g9) (st9) (r9) (sn9) (sf))) (k_srs (erM C (q) (v) (hs) (cu) (kp) (gv) (en) (ed) (vh) (se) (c9) (g9) (st9) (r9) (sn9) (sf))) (k_row (erM C (q) (v) (hs) (cu) (kp) (gv) (en) (ed) (vh) (se) (c9) (g9) (st9) (r9) (sn9) (sf))) (k_sp (erM C (q) (v) (hs) (cu) (kp) (gv) (en) (ed) (vh) (se) (c9) (g9) (st9) (r9) (sn9) (sf))) (k_kis (erM C (q) (v) (hs) (cu) (kp) (gv) (en) (ed) (vh) (se) (c9) (g9) (st9) (r9) (sn9) (sf))) (k_pg (erM C (q) (v) (hs) (cu) (kp) (gv) (en) (ed) (vh) (se) (c9) (g9) (st9) (r9) (sn9) (sf))) (k_vq (erM C (q) (v) (hs) (cu) (kp) (gv) (en) (ed) (vh) (se) (c9) (g9) (st9) (r9) (sn9) (sf))) (k_rq (erM C (q) (v) (hs) (cu) (kp) (gv) (en) (ed) (vh) (se) (c9) (g9) (st9) (r9) (sn9) (sf))) (k_L (erM C (q) (v) (hs) (cu) (kp) (gv) (en) (ed) (vh) (se) (c9) (g9) (st9) (r9) (sn9) (sf))) (k_F (erM C (q) (v) (hs) (cu) (kp) (gv) (en) (ed) (vh) (se) (c9) (g9) (st9) (r9) (sn9) (sf)))) := hD
  have hPm : va_P D vwCl (kW cI cJ cZ cV cR a (erM C (q) (v) (hs) (cu) (kp) (gv) (en) (ed) (vh) (se) (c9) (g9) (st9) (r9) (sn9) (sf))) H := by exact hP
  have hDm : va_D A (kW cI cJ cZ cV cR a (erM C (q) (v) (hs) (cu) (kp) (gv) (en) (ed) (vh) (se) (c9) (g9) (st9) (r9) (sn9) (sf))) := by exact hD
  exact W.iret (v := nI (erR C (ed) (st9) (r9) (sn9) (sf))) hx hb hr (fun t ht hW => ⟨⟨_, (erM C (q) (v) (hs) (cu) (kp) (gv) (en) (ed) (vh) (se) (c9) (g9) (st9) (r9) (sn9) (sf)), rfl, ⟨rfl, rfl⟩, gb_mk ht hW hPm hK hDm⟩, hS.F ht⟩) hS.2.2 dX5_close_9
def rm_X5_take : Room := { frames := 1, cells := 0, slots := 0, locals := 40 }
set_option maxHeartbeats 4000000 in
set_option maxRecDepth 100000 in
/-- a page -/
theorem c_X5_take (l : Launch) (D : va_G) (cI cJ cZ cV cR : ClassId) (a : Nat → Nat) (C : CT) (hM : kOk C) (q v hs : Nat) (cu : Bool) (kp gv en : Nat) (ed : Bool) (n9 : Nat) (f9 : Nat → Nat) (hR : isR (k_L C) (k_F C) q v hs cu kp gv en ed) (hI : isI cI (k_L C) (k_F C) hs n9 f9) (hn9 : n9 ≤ 300) (hgv : gv ≤ n9) (hkp : kp ≤ 1000) (hen : en ≤ 2000000000) (j9 : Nat) (hj9 : j9 < k_rc C) (hq9 : k_rq C j9 = some q) (m9 : Nat) (hm9 : 1 ≤ m9) (hm8 : m9 ≤ 50) (hcu : cu = true) (sz : Nat) : Met l yX5_take wsX5_take rm_X5_take (va_Pc [.ref (a 0), .int (nI (j9)), .int (nI (m9))] (GW D (tyK cI cJ cZ cV cR) (kW cI cJ cZ cV cR a C) sz)) (va_Qi (fun rr u => (ed = true → rr = zI (-1) ∧ u = C) ∧ (ed = false → rr = nI (min (m9) (n9 - gv)) ∧ u = takM C q v hs cu kp gv ed f9 (min (m9) (n9 - gv)))) (fun u => GB D (tyK cI cJ cZ cV cR) (va_A (kW cI cJ cZ cV cR a C) sz) (kW cI cJ cZ cV cR a u)) (va_A (kW cI cJ cZ cV cR a C) sz)) 0 0 (va_A (kW cI cJ cZ cV cR a C) sz) := by
  obtain ⟨hn, hfn, hsn, hvc, hrc, hpc, hnw, hkc, h_home, h_kin, h_alv, h_srs, h_row, h_sp, h_kis, h_pg⟩ := id hM
  refine Met.ofW (cc := cX5_take) (maxL := 4) (ret := (some .int)) (by decide) rfl ?_
  intro p e s m args below meth c s₁ B hml hv
  obtain ⟨rfl, hsz, hP, hK, hD0⟩ := hv
  have hx := B.exec
  have hb := B.bytes
  have hr := B.returns
  have hts := atoms_spec (ws := wsX5_take) B.pre
  have hown : s.vm.findClass RX5 = some m.cls := findClass_of_methodNamed B.named
  have hlocks := B.notSynchronized
  subst hsz
  have hD := hD0.self (sz := s.heap.size)
  generalize hAe : va_A (kW cI cJ cZ cV cR a C) s.heap.size = A at hD ⊢
  have hA : ∀ q : Nat, s.heap.size ≤ q → A q := fun q h => by rw [← hAe]; exact Or.inr h
  have hS : va_S A s.heap s.heap [] := va_S.rf
  have hP : va_P D vwCl (kX cI cJ cZ cV cR a (k_ra C) (k_rb C) (k_vc C) (k_rc C) (k_pc C) (k_nw C) (k_n C) (k_fn C) (k_sn C) (k_kc C) (k_grp C) (k_key C) (k_srt C) (k_wt C) (k_home C) (k_drp C) (k_met C) (k_kin C) (k_alv C) (k_srs C) (k_row C) (k_sp C) (k_kis C) (k_pg C) (k_vq C) (k_rq C) (k_L C) (k_F C)) s.heap := hP
  have hD : va_D A (kX cI cJ cZ cV cR a (k_ra C) (k_rb C) (k_vc C) (k_rc C) (k_pc C) (k_nw C) (k_n C) (k_fn C) (k_sn C) (k_kc C) (k_grp C) (k_key C) (k_srt C) (k_wt C) (k_home C) (k_drp C) (k_met C) (k_kin C) (k_alv C) (k_srs C) (k_row C) (k_sp C) (k_kis C) (k_pg C) (k_vq C) (k_rq C) (k_L C) (k_F C)) := hD
  have hiX1 : ∀ w ∈ wsX10, w ∈ wsX5_take := by decide +kernel
  have hiX5 : ∀ w ∈ wsX50, w ∈ wsX5_take := by decide +kernel
  have hf0 := hts (.fieldLink RX5 231 "GroupCursors$Reader" "isCursor" "Z") (by decide +kernel)
  have hf1 := hts (.fieldLink RX5 237 "GroupCursors$Reader" "ended" "Z") (by decide +kernel)
  have hf2 := hts (.methodLink RX5 243 Lib.Math.min.name) (by decide +kernel)
  have hf3 := hts (.static Lib.Math.min.name) (by decide +kernel)
  have hf4 := hts (.initialized "java/lang/Math") (by decide +kernel)
  have hf5 := hts (.code Lib.Math.min.name Lib.Math.min.code 2 (some .int)) (by decide +kernel)
  have hf6 := hts (.fieldLink RX5 55 "GroupCursors" "pageCount" "I") (by decide +kernel)
  have hf7 := hts (.fieldLink RX5 248 "GroupCursors$Reader" "hits" "[I") (by decide +kernel)
  have hf8 := hts (.fieldLink RX5 251 "GroupCursors$Reader" "given" "I") (by decide +kernel)
  have hf9 := hts (.fieldLink RX5 51 "GroupCursors" "pageRow" "[I") (by decide +kernel)
  have hf10 := hts (.methodLink RX5 254 arraycopyName) (by decide +kernel)
  have hf11 := hts (.native arraycopyName) (by decide +kernel)
  have hf12 := hts (.static arraycopyName) (by decide +kernel)
  have hf13 := hts (.initialized "java/lang/System") (by decide +kernel)
  have hf14 := hts (.fieldLink RX5 58 "GroupCursors" "now" "I") (by decide +kernel)
  have hf15 := hts (.fieldLink RX5 260 "GroupCursors$Reader" "keep" "I") (by decide +kernel)
  have hf16 := hts (.fieldLink RX5 204 "GroupCursors$Reader" "end" "I") (by decide +kernel)
  have hl := lv_entry ([.ref (a 0), .int (nI (j9)), .int (nI (m9))]) (n := 4) (Nat.le_of_ble_eq_true rfl)
  rw [lg_entry_eq]
  generalize (lg_sl ([.ref (a 0), .int (nI (j9)), .int (nI (m9))]) ++ List.replicate (4 - (lg_sl ([.ref (a 0), .int (nI (j9)), .int (nI (m9))])).length) Slot.unset).toArray = ls at hl ⊢
  have hl : lv_has ls 4 [(0, .ref (a 0)), (1, .int (nI (j9))), (2, .int (nI (m9)))] := hl
  refine lv_aload_n hx hb dX5_take_0 rfl (lv_at hl 0 rfl) ?_
  refine lv_iload_n hx hb dX5_take_1 rfl (lv_at hl 1 rfl) ?_
  have hPm : va_P D vwCl (kW cI cJ cZ cV cR a C) s.heap := by exact hP
  have hDm : va_D A (kW cI cJ cZ cV cR a C) := by exact hD
  refine wc_VWr (As := [.int (nI (j9))]) (rest := []) (ra := Prod.fst) (wf := fun u => kW cI cJ cZ cV cR a u.2) ⟨hx, hb, hml, hown, hts⟩ (c_X5_readerAt l D cI cJ cZ cV cR a C hM (j9) (q) (by omega) hq9 s.heap.size) (cwV 1 hts gX5_take_X5_readerAt rfl rfl rfl (by decide +kernel) ⟨Nat.le_of_ble_eq_true rfl, Nat.le_of_ble_eq_true rfl⟩) hPm hK hDm hS hA 0 rfl rfl rfl hl.1 rfl (Nat.le_of_ble_eq_true rfl) dX5_take_2 ⟨Nat.le_of_ble_eq_true rfl, Nat.le_of_ble_eq_true rfl⟩ (fun u1 hq1 H locs hP hD hS => ?_)
  have hu1 := hq1
  subst hu1
  have hP : va_P D vwCl (kX cI cJ cZ cV cR a (k_ra C) (k_rb C) (k_vc C) (k_rc C) (k_pc C) (k_nw C) (k_n C) (k_fn C) (k_sn C) (k_kc C) (k_grp C) (k_key C) (k_srt C) (k_wt C) (k_home C) (k_drp C) (k_met C) (k_kin C) (k_alv C) (k_srs C) (k_row C) (k_sp C) (k_kis C) (k_pg C) (k_vq C) (k_rq C) (k_L C) (k_F C)) H := hP
  have hD : va_D A (kX cI cJ cZ cV cR a (k_ra C) (k_rb C) (k_vc C) (k_rc C) (k_pc C) (k_nw C) (k_n C) (k_fn C) (k_sn C) (k_kc C) (k_grp C) (k_key C) (k_srt C) (k_wt C) (k_home C) (k_drp C) (k_met C) (k_kin C) (k_alv C) (k_srs C) (k_row C) (k_sp C) (k_kis C) (k_pg C) (k_vq C) (k_rq C) (k_L C) (k_F C)) := hD
  refine lv_astore_n (lv' := [(3, .ref (q)), (0, .ref (a 0)), (1, .int (nI (j9))), (2, .int (nI (m9)))]) hx hb dX5_take_5 rfl hl (by decide) rfl (fun ls hl => ?_)
  refine lv_iload_n hx hb dX5_take_6 rfl (lv_at hl 3 rfl) ?_
  refine lv_iconst (v := nI (1)) hx hb dX5_take_7 (by decide) ?_
  refine wn_icmp_lt (a := m9) (b := 1) (tgt := 17) hx hb (nI_z (by omega)) (nI_z (by omega)) dX5_take_8 (by decide) (fun c8_2 => ?_) (fun c8_2 => ?_)
  · exfalso; omega
  · refine lv_iload_n hx hb dX5_take_11 rfl (lv_at hl 3 rfl) ?_
    refine lv_bipush (v := nI (50)) hx hb dX5_take_12 (by decide) ?_
    refine wn_icmp_le (a := m9) (b := 50) (tgt := 27) hx hb (nI_z (by omega)) (nI_z (by omega)) dX5_take_14 (by decide) (fun c14_3 => ?_) (fun c14_3 => ?_)
    · refine lv_aload_n hx hb dX5_take_27 rfl (lv_at hl 0 rfl) ?_
      refine wp_get (ci := 1) (v := .int (bI (cu))) (C := RX1) (T := TX1) (N := 7) hx hb hts hiX1 hown hK hP hR.1 hR.2 rfl 2 (by decide) hf0 (fun _ h9 => h9) rfl dX5_take_28 ?_
      refine wb_if_ne (tgt := 44) hx hb dX5_take_31 (by decide) (fun c31_4 => ?_) (fun c31_4 => ?_)
      · refine lv_aload_n hx hb dX5_take_44 rfl (lv_at hl 0 rfl) ?_
        refine wp_get (ci := 1) (v := .int (bI (ed))) (C := RX1) (T := TX1) (N := 7) hx hb hts hiX1 hown hK hP hR.1 hR.2 rfl 6 (by decide) hf1 (fun _ h9 => h9) rfl dX5_take_45 ?_
        refine wb_if_eq (tgt := 53) hx hb dX5_take_48 (by decide) (fun c48_5 => ?_) (fun c48_5 => ?_)
        · refine lv_aload_n hx hb dX5_take_53 rfl (lv_at hl 1 rfl) ?_
          refine lv_iload_n hx hb dX5_take_54 rfl (lv_at hl 3 rfl) ?_
          refine lv_aload_n hx hb dX5_take_55 rfl (lv_at hl 0 rfl) ?_
          have hPm : va_P D vwCl (kW cI cJ cZ cV cR a C) H := by exact hP
          have hDm : va_D A (kW cI cJ cZ cV cR a C) := by exact hD
          obtain ⟨k6, hk6⟩ := kW_at (cI := cI) (cJ := cJ) (cZ := cZ) (cV := cV) (cR := cR) (a := a) (C := C) (e := .inr (1, [.ref (v), .ref (hs), .int (bI (cu)), .int (nI (kp)), .int (nI (gv)), .int (nI (en)), .int (bI (ed))])) hR
          refine wc_VWi (As := []) (rest := [.int (nI (m9)), .ref (a 0)]) (wf := kW cI cJ cZ cV cR a) ⟨hx, hb, hml, hown, hts⟩ (c_X1_countLeft l D cI cJ cZ cV cR a C hM (q) (v) (hs) (cu) (kp) (gv) (en) (ed) (n9) (f9) hR hI (by omega) (by omega) (by omega) (by omega) H.size) (cwV 0 hts gX5_take_X1_countLeft rfl rfl rfl (by decide +kernel) ⟨Nat.le_of_ble_eq_true rfl, Nat.le_of_ble_eq_true rfl⟩) hPm hK hDm hS hA k6 hk6 rfl rfl hl.1 rfl (Nat.le_of_ble_eq_true rfl) dX5_take_56 ⟨Nat.zero_le _, Nat.zero_le _⟩ (fun rr u6 hq6 H locs hP hD hS => ?_)
          obtain ⟨hr6, hu6⟩ := hq6
          subst hr6
          have hu6 := hu6.symm
          subst hu6
          have hP : va_P D vwCl (kX cI cJ cZ cV cR a (k_ra C) (k_rb C) (k_vc C) (k_rc C) (k_pc C) (k_nw C) (k_n C) (k_fn C) (k_sn C) (k_kc C) (k_grp C) (k_key C) (k_srt C) (k_wt C) (k_home C) (k_drp C) (k_met C) (k_kin C) (k_alv C) (k_srs C) (k_row C) (k_sp C) (k_kis C) (k_pg C) (k_vq C) (k_rq C) (k_L C) (k_F C)) H := hP
          have hD : va_D A (kX cI cJ cZ cV cR a (k_ra C) (k_rb C) (k_vc C) (k_rc C) (k_pc C) (k_nw C) (k_n C) (k_fn C) (k_sn C) (k_kc C) (k_grp C) (k_key C) (k_srt C) (k_wt C) (k_home C) (k_drp C) (k_met C) (k_kin C) (k_alv C) (k_srs C) (k_row C) (k_sp C) (k_kis C) (k_pg C) (k_vq C) (k_rq C) (k_L C) (k_F C)) := hD
          refine va_mmin hx hb (hml.trans hl.1.symm) hown hf2 hf3 hf4 hf5 (Nat.le_of_ble_eq_true rfl) (Nat.le_of_ble_eq_true rfl) (Nat.zero_le _) (Nat.zero_le _) dX5_take_59 (ww_top (y := nI (min (m9) (n9 - gv))) (nmin (by omega) (by omega)) ?_)
          refine va_put (ci := 5) (v := .int (nI (min (m9) (n9 - gv)))) (ty := .int) (C := RX5) (T := TX5) (N := 10) hx hb hts hiX5 tyX5 tyX5_ok nmX5 hown hK hP hD hS 0 rfl rfl 8 (by decide) hf6 (fun _ h9 => h9) rfl (by decide +kernel) rfl rfl (Nat.le_of_ble_eq_true rfl) dX5_take_62 (fun H locs hP hD hS => ?_)
          have hP : va_P D vwCl (kX cI cJ cZ cV cR a (k_ra C) (k_rb C) (k_vc C) (k_rc C) (min (m9) (n9 - gv)) (k_nw C) (k_n C) (k_fn C) (k_sn C) (k_kc C) (k_grp C) (k_key C) (k_srt C) (k_wt C) (k_home C) (k_drp C) (k_met C) (k_kin C) (k_alv C) (k_srs C) (k_row C) (k_sp C) (k_kis C) (k_pg C) (k_vq C) (k_rq C) (k_L C) (k_F C)) H := hP
          have hD : va_D A (kX cI cJ cZ cV cR a (k_ra C) (k_rb C) (k_vc C) (k_rc C) (min (m9) (n9 - gv)) (k_nw C) (k_n C) (k_fn C) (k_sn C) (k_kc C) (k_grp C) (k_key C) (k_srt C) (k_wt C) (k_home C) (k_drp C) (k_met C) (k_kin C) (k_alv C) (k_srs C) (k_row C) (k_sp C) (k_kis C) (k_pg C) (k_vq C) (k_rq C) (k_L C) (k_F C)) := hD
          refine lv_aload_n hx hb dX5_take_65 rfl (lv_at hl 0 rfl) ?_
          refine wp_get (ci := 1) (v := .ref (hs)) (C := RX1) (T := TX1) (N := 7) hx hb hts hiX1 hown hK hP hR.1 hR.2 rfl 1 (by decide) hf7 (fun _ h9 => h9) rfl dX5_take_66 ?_
          refine lv_aload_n hx hb dX5_take_69 rfl (lv_at hl 0 rfl) ?_
          refine wp_get (ci := 1) (v := .int (nI (gv))) (C := RX1) (T := TX1) (N := 7) hx hb hts hiX1 hown hK hP hR.1 hR.2 rfl 4 (by decide) hf8 (fun _ h9 => h9) rfl dX5_take_70 ?_
          refine lv_aload_n hx hb dX5_take_73 rfl (lv_at hl 1 rfl) ?_
          refine va_get (ci := 5) (v := .ref (a 19)) (C := RX5) (T := TX5) (N := 10) hx hb hts hiX5 hown hK hP 0 rfl rfl 7 (by decide) hf9 (fun _ h9 => h9) rfl dX5_take_74 ?_
          refine lv_iconst (v := nI (0)) hx hb dX5_take_77 (by decide) ?_
          refine lv_aload_n hx hb dX5_take_78 rfl (lv_at hl 1 rfl) ?_
          refine va_get (ci := 5) (v := .int (nI (min (m9) (n9 - gv)))) (C := RX5) (T := TX5) (N := 10) hx hb hts hiX5 hown hK hP 0 rfl rfl 8 (by decide) hf6 (fun _ h9 => h9) rfl dX5_take_79 ?_
          refine wp_cpyPF (f := f9) (g := k_pg C) (s9 := gv) (d9 := 0) (n9 := min (m9) (n9 - gv)) hx hb (hml.trans hl.1.symm) hown hf10 hf11 hf12 hf13 hK hP hD hS 19 0 hI rfl rfl (by omega) (by omega) (by omega) (by omega) (Nat.le_of_ble_eq_true rfl) (Nat.le_of_ble_eq_true rfl) dX5_take_82 (fun H locs hP hD hS => ?_)
          have hP : va_P D vwCl (kX cI cJ cZ cV cR a (k_ra C) (k_rb C) (k_vc C) (k_rc C) (min (m9) (n9 - gv)) (k_nw C) (k_n C) (k_fn C) (k_sn C) (k_kc C) (k_grp C) (k_key C) (k_srt C) (k_wt C) (k_home C) (k_drp C) (k_met C) (k_kin C) (k_alv C) (k_srs C) (k_row C) (k_sp C) (k_kis C) (va_cpy (f9) (k_pg C) (gv) (0) (min (m9) (n9 - gv))) (k_vq C) (k_rq C) (k_L C) (k_F C)) H := hP
          have hD : va_D A (kX cI cJ cZ cV cR a (k_ra C) (k_rb C) (k_vc C) (k_rc C) (min (m9) (n9 - gv)) (k_nw C) (k_n C) (k_fn C) (k_sn C) (k_kc C) (k_grp C) (k_key C) (k_srt C) (k_wt C) (k_home C) (k_drp C) (k_met C) (k_kin C) (k_alv C) (k_srs C) (k_row C) (k_sp C) (k_kis C) (va_cpy (f9) (k_pg C) (gv) (0) (min (m9) (n9 - gv))) (k_vq C) (k_rq C) (k_L C) (k_F C)) := hD
          refine lv_aload_n hx hb dX5_take_85 rfl (lv_at hl 0 rfl) ?_
          refine lv_dup hx hb dX5_take_86 rfl ?_
          refine wp_get (ci := 1) (v := .int (nI (gv))) (C := RX1) (T := TX1) (N := 7) hx hb hts hiX1 hown hK hP hR.1 hR.2 rfl 4 (by decide) hf8 (fun _ h9 => h9) rfl dX5_take_87 ?_
          refine lv_aload_n hx hb dX5_take_90 rfl (lv_at hl 1 rfl) ?_
          refine va_get (ci := 5) (v := .int (nI (min (m9) (n9 - gv)))) (C := RX5) (T := TX5) (N := 10) hx hb hts hiX5 hown hK hP 0 rfl rfl 8 (by decide) hf6 (fun _ h9 => h9) rfl dX5_take_91 ?_
          refine lv_iadd hx hb dX5_take_94 (ww_top (y := nI (gv + min (m9) (n9 - gv))) (nI_addn _ _) ?_)
          refine wp_put (ci := 1) (v := .int (nI (gv + min (m9) (n9 - gv)))) (ty := .int) (C := RX1) (T := TX1) (N := 7) hx hb hts hiX1 tyX1 tyX1_ok nmX1 hown hK hP hD hS hR.1 hR.2 rfl 4 (by decide) hf8 (fun _ h9 => h9) rfl (by decide +kernel) rfl rfl (Nat.le_of_ble_eq_true rfl) dX5_take_95 (fun H locs hP hD hS => ?_)
          have hP : va_P D vwCl (kX cI cJ cZ cV cR a (k_ra C) (k_rb C) (k_vc C) (k_rc C) (min (m9) (n9 - gv)) (k_nw C) (k_n C) (k_fn C) (k_sn C) (k_kc C) (k_grp C) (k_key C) (k_srt C) (k_wt C) (k_home C) (k_drp C) (k_met C) (k_kin C) (k_alv C) (k_srs C) (k_row C) (k_sp C) (k_kis C) (va_cpy (f9) (k_pg C) (gv) (0) (min (m9) (n9 - gv))) (k_vq C) (k_rq C) (k_L C) (va_up (k_F C) (q) (.inr (1, [.ref (v), .ref (hs), .int (bI (cu)), .int (nI (kp)), .int (nI (gv + min (m9) (n9 - gv))), .int (nI (en)), .int (bI (ed))])))) H := hP
          have hD : va_D A (kX cI cJ cZ cV cR a (k_ra C) (k_rb C) (k_vc C) (k_rc C) (min (m9) (n9 - gv)) (k_nw C) (k_n C) (k_fn C) (k_sn C) (k_kc C) (k_grp C) (k_key C) (k_srt C) (k_wt C) (k_home C) (k_drp C) (k_met C) (k_kin C) (k_alv C) (k_srs C) (k_row C) (k_sp C) (k_kis C) (va_cpy (f9) (k_pg C) (gv) (0) (min (m9) (n9 - gv))) (k_vq C) (k_rq C) (k_L C) (va_up (k_F C) (q) (.inr (1, [.ref (v), .ref (hs), .int (bI (cu)), .int (nI (kp)), .int (nI (gv + min (m9) (n9 - gv))), .int (nI (en)), .int (bI (ed))])))) := hD
          have hp7_0 : isI cI (k_L C) (va_up (k_F C) (q) (.inr (1, [.ref (v), .ref (hs), .int (bI (cu)), .int (nI (kp)), .int (nI (gv + min (m9) (n9 - gv))), .int (nI (en)), .int (bI (ed))]))) (hs) (n9) (f9) := isE.keep hI (ne_of_F hI.2 hR.2 (fun h => nomatch h))
          have hp7_q : isR (k_L C) (va_up (k_F C) (q) (.inr (1, [.ref (v), .ref (hs), .int (bI (cu)), .int (nI (kp)), .int (nI (gv + min (m9) (n9 - gv))), .int (nI (en)), .int (bI (ed))]))) (q) (v) (hs) (cu) (kp) (gv + min (m9) (n9 - gv)) (en) (ed) := ⟨hR.1, va_up_self _ _ _⟩
          refine lv_aload_n hx hb dX5_take_98 rfl (lv_at hl 0 rfl) ?_
          refine lv_aload_n hx hb dX5_take_99 rfl (lv_at hl 1 rfl) ?_
          refine va_get (ci := 5) (v := .int (nI (k_nw C))) (C := RX5) (T := TX5) (N := 10) hx hb hts hiX5 hown hK hP 0 rfl rfl 9 (by decide) hf14 (fun _ h9 => h9) rfl dX5_take_100 ?_
          refine lv_aload_n hx hb dX5_take_103 rfl (lv_at hl 0 rfl) ?_
          refine wp_get (ci := 1) (v := .int (nI (kp))) (C := RX1) (T := TX1) (N := 7) hx hb hts hiX1 hown hK hP hp7_q.1 hp7_q.2 rfl 3 (by decide) hf15 (fun _ h9 => h9) rfl dX5_take_104 ?_
          refine lv_iadd hx hb dX5_take_107 (ww_top (y := nI (k_nw C + kp)) (nI_addn _ _) ?_)
          refine wp_put (ci := 1) (v := .int (nI (k_nw C + kp))) (ty := .int) (C := RX1) (T := TX1) (N := 7) hx hb hts hiX1 tyX1 tyX1_ok nmX1 hown hK hP hD hS hp7_q.1 hp7_q.2 rfl 5 (by decide) hf16 (fun _ h9 => h9) rfl (by decide +kernel) rfl rfl (Nat.le_of_ble_eq_true rfl) dX5_take_108 (fun H locs hP hD hS => ?_)
          rw [bx_uu] at hP hD
          have hP : va_P D vwCl (kX cI cJ cZ cV cR a (k_ra C) (k_rb C) (k_vc C) (k_rc C) (min (m9) (n9 - gv)) (k_nw C) (k_n C) (k_fn C) (k_sn C) (k_kc C) (k_grp C) (k_key C) (k_srt C) (k_wt C) (k_home C) (k_drp C) (k_met C) (k_kin C) (k_alv C) (k_srs C) (k_row C) (k_sp C) (k_kis C) (va_cpy (f9) (k_pg C) (gv) (0) (min (m9) (n9 - gv))) (k_vq C) (k_rq C) (k_L C) (va_up (k_F C) (q) (.inr (1, [.ref (v), .ref (hs), .int (bI (cu)), .int (nI (kp)), .int (nI (gv + min (m9) (n9 - gv))), .int (nI (k_nw C + kp)), .int (bI (ed))])))) H := hP
          have hD : va_D A (kX cI cJ cZ cV cR a (k_ra C) (k_rb C) (k_vc C) (k_rc C) (min (m9) (n9 - gv)) (k_nw C) (k_n C) (k_fn C) (k_sn C) (k_kc C) (k_grp C) (k_key C) (k_srt C) (k_wt C) (k_home C) (k_drp C) (k_met C) (k_kin C) (k_alv C) (k_srs C) (k_row C) (k_sp C) (k_kis C) (va_cpy (f9) (k_pg C) (gv) (0) (min (m9) (n9 - gv))) (k_vq C) (k_rq C) (k_L C) (va_up (k_F C) (q) (.inr (1, [.ref (v), .ref (hs), .int (bI (cu)), .int (nI (kp)), .int (nI (gv + min (m9) (n9 - gv))), .int (nI (k_nw C + kp)), .int (bI (ed))])))) := hD
          have hp8_0 : isI cI (k_L C) (va_up (k_F C) (q) (.inr (1, [.ref (v), .ref (hs), .int (bI (cu)), .int (nI (kp)), .int (nI (gv + min (m9) (n9 - gv))), .int (nI (k_nw C + kp)), .int (bI (ed))]))) (hs) (n9) (f9) := isE.keep2 hp7_0 (ne_of_F hp7_0.2 hp7_q.2 (fun h => nomatch h))
          have hp8_q : isR (k_L C) (va_up (k_F C) (q) (.inr (1, [.ref (v), .ref (hs), .int (bI (cu)), .int (nI (kp)), .int (nI (gv + min (m9) (n9 - gv))), .int (nI (k_nw C + kp)), .int (bI (ed))]))) (q) (v) (hs) (cu) (kp) (gv + min (m9) (n9 - gv)) (k_nw C + kp) (ed) := ⟨hp7_q.1, va_up_self _ _ _⟩
          refine lv_aload_n hx hb dX5_take_111 rfl (lv_at hl 1 rfl) ?_
          refine va_get (ci := 5) (v := .int (nI (min (m9) (n9 - gv)))) (C := RX5) (T := TX5) (N := 10) hx hb hts hiX5 hown hK hP 0 rfl rfl 8 (by decide) hf6 (fun _ h9 => h9) rfl dX5_take_112 ?_
          have hPm : va_P D vwCl (kW cI cJ cZ cV cR a (mkC (k_ra C) (k_rb C) (k_vc C) (k_rc C) (min (m9) (n9 - gv)) (k_nw C) (k_n C) (k_fn C) (k_sn C) (k_kc C) (k_grp C) (k_key C) (k_srt C) (k_wt C) (k_home C) (k_drp C) (k_met C) (k_kin C) (k_alv C) (k_srs C) (k_row C) (k_sp C) (k_kis C) (va_cpy (f9) (k_pg C) (gv) (0) (min (m9) (n9 - gv))) (k_vq C) (k_rq C) (k_L C) (va_up (k_F C) (q) (.inr (1, [.ref (v), .ref (hs), .int (bI (cu)), .int (nI (kp)), .int (nI (gv + min (m9) (n9 - gv))), .int (nI (k_nw C + kp)), .int (bI (ed))]))))) H := by rw [← kX_mk]; exact hP
          have hDm : va_D A (kW cI cJ cZ cV cR a (mkC (k_ra C) (k_rb C) (k_vc C) (k_rc C) (min (m9) (n9 - gv)) (k_nw C) (k_n C) (k_fn C) (k_sn C) (k_kc C) (k_grp C) (k_key C) (k_srt C) (k_wt C) (k_home C) (k_drp C) (k_met C) (k_kin C) (k_alv C) (k_srs C) (k_row C) (k_sp C) (k_kis C) (va_cpy (f9) (k_pg C) (gv) (0) (min (m9) (n9 - gv))) (k_vq C) (k_rq C) (k_L C) (va_up (k_F C) (q) (.inr (1, [.ref (v), .ref (hs), .int (bI (cu)), .int (nI (kp)), .int (nI (gv + min (m9) (n9 - gv))), .int (nI (k_nw C + kp)), .int (bI (ed))]))))) := by rw [← kX_mk]; exact hD
          exact W.iret (v := nI (min (m9) (n9 - gv))) hx hb hr (fun t ht hW => ⟨⟨_, (mkC (k_ra C) (k_rb C) (k_vc C) (k_rc C) (min (m9) (n9 - gv)) (k_nw C) (k_n C) (k_fn C) (k_sn C) (k_kc C) (k_grp C) (k_key C) (k_srt C) (k_wt C) (k_home C) (k_drp C) (k_met C) (k_kin C) (k_alv C) (k_srs C) (k_row C) (k_sp C) (k_kis C) (va_cpy (f9) (k_pg C) (gv) (0) (min (m9) (n9 - gv))) (k_vq C) (k_rq C) (k_L C) (va_up (k_F C) (q) (.inr (1, [.ref (v), .ref (hs), .int (bI (cu)), .int (nI (kp)), .int (nI (gv + min (m9) (n9 - gv))), .int (nI (k_nw C + kp)), .int (bI (ed))])))), rfl, ⟨fun h => absurd (h.symm.trans c48_5) (by decide), fun _ => ⟨rfl, rfl⟩⟩, gb_mk ht hW hPm hK hDm⟩, hS.F ht⟩) hS.2.2 dX5_take_115
        · refine lv_iconst (v := zI ((-1))) hx hb dX5_take_51 (by decide) ?_
          have hPm : va_P D vwCl (kW cI cJ cZ cV cR a C) H := by exact hP
          have hDm : va_D A (kW cI cJ cZ cV cR a C) := by exact hD
          exact W.iret (v := zI ((-1))) hx hb hr (fun t ht hW => ⟨⟨_, C, rfl, ⟨fun _ => ⟨rfl, rfl⟩, fun h => absurd (h.symm.trans c48_5) (by decide)⟩, gb_mk ht hW hPm hK hDm⟩, hS.F ht⟩) hS.2.2 dX5_take_52
      · exact absurd (hcu.symm.trans c31_4) (by decide)
    · exfalso; omega
def rmx_X5_take_v : Room := { frames := 7, cells := 1, slots := 6, locals := 104 }
set_option maxHeartbeats 4000000 in
set_option maxRecDepth 100000 in
/-- no such reader -/
theorem x_X5_take_v (l : Launch) (htr : l.stackTraces = false) (D : va_G) (cI cJ cZ cV cR : ClassId) (a : Nat → Nat) (C : CT) (hM : kOk C) (x y : Int32) (hbad : x.toInt < 0 ∨ ((k_rc C : Nat) : Int) ≤ x.toInt) (sz : Nat) : vx_Met l yX5_take wsX5_take rmx_X5_take_v (va_Pc [.ref (a 0), .int (x), .int (y)] (GX D (tyK cI cJ cZ cV cR) (kW cI cJ cZ cV cR a C) sz)) xNo (xXC D (tyK cI cJ cZ cV cR) "java/lang/IndexOutOfBoundsException" (fun u : CT => u = C) (kW cI cJ cZ cV cR a) (va_A (kW cI cJ cZ cV cR a C) sz)) 1 6 (va_A (kW cI cJ cZ cV cR a C) sz) := by
  obtain ⟨hn, hfn, hsn, hvc, hrc, hpc, hnw, hkc, h_home, h_kin, h_alv, h_srs, h_row, h_sp, h_kis, h_pg⟩ := id hM
  refine vx_ofW (cc := cX5_take) (maxL := 4) (ret := (some .int)) (by decide) rfl ?_
  intro p e s m args below meth c s₁ B hml hout hv
  obtain ⟨rfl, ⟨hsz, hP, hK, hD0⟩, hXE⟩ := hv
  have hx := B.exec
  have hb := B.bytes
  have hr := B.returns
  have hts := atoms_spec (ws := wsX5_take) B.pre
  have hown : s.vm.findClass RX5 = some m.cls := findClass_of_methodNamed B.named
  have hlocks := B.notSynchronized
  subst hsz
  have hD := hD0.self (sz := s.heap.size)
  generalize hAe : va_A (kW cI cJ cZ cV cR a C) s.heap.size = A at hD hXE ⊢
  have hA : ∀ q : Nat, s.heap.size ≤ q → A q := fun q h => by rw [← hAe]; exact Or.inr h
  have hS : va_S A s.heap s.heap [] := va_S.rf
  have hP : va_P D vwCl (kX cI cJ cZ cV cR a (k_ra C) (k_rb C) (k_vc C) (k_rc C) (k_pc C) (k_nw C) (k_n C) (k_fn C) (k_sn C) (k_kc C) (k_grp C) (k_key C) (k_srt C) (k_wt C) (k_home C) (k_drp C) (k_met C) (k_kin C) (k_alv C) (k_srs C) (k_row C) (k_sp C) (k_kis C) (k_pg C) (k_vq C) (k_rq C) (k_L C) (k_F C)) s.heap := hP
  have hD : va_D A (kX cI cJ cZ cV cR a (k_ra C) (k_rb C) (k_vc C) (k_rc C) (k_pc C) (k_nw C) (k_n C) (k_fn C) (k_sn C) (k_kc C) (k_grp C) (k_key C) (k_srt C) (k_wt C) (k_home C) (k_drp C) (k_met C) (k_kin C) (k_alv C) (k_srs C) (k_row C) (k_sp C) (k_kis C) (k_pg C) (k_vq C) (k_rq C) (k_L C) (k_F C)) := hD
  have hl := lv_entry ([.ref (a 0), .int (x), .int (y)]) (n := 4) (Nat.le_of_ble_eq_true rfl)
  rw [lg_entry_eq]
  generalize (lg_sl ([.ref (a 0), .int (x), .int (y)]) ++ List.replicate (4 - (lg_sl ([.ref (a 0), .int (x), .int (y)])).length) Slot.unset).toArray = ls at hl ⊢
  have hl : lv_has ls 4 [(0, .ref (a 0)), (1, .int (x)), (2, .int (y))] := hl
  refine lv_aload_n hx hb dX5_take_0 rfl (lv_at hl 0 rfl) ?_
  refine lv_iload_n hx hb dX5_take_1 rfl (lv_at hl 1 rfl) ?_
  have hPm : va_P D vwCl (kW cI cJ cZ cV cR a C) s.heap := by exact hP
  have hDm : va_D A (kW cI cJ cZ cV cR a C) := by exact hD
  refine wx_V (As := [.int (x)]) (rest := []) (wf := kW cI cJ cZ cV cR a) ⟨hx, hb, hml, hown, hts⟩ (x_X5_readerAt l htr D cI cJ cZ cV cR a C hM x hbad s.heap.size) (cwV 1 hts gX5_take_X5_readerAt rfl rfl rfl (by decide +kernel) ⟨Nat.le_of_ble_eq_true rfl, Nat.le_of_ble_eq_true rfl⟩) hPm hK hDm hS hA hXE 0 rfl rfl rfl hl.1 rfl (Nat.le_of_ble_eq_true rfl) dX5_take_2 ⟨Nat.le_of_ble_eq_true rfl, Nat.le_of_ble_eq_true rfl⟩ (fun u hu H locs ce q9 hP hD hS hce hcv hcl => ?_)
  exact vx_out (fun x h => (hout x h).elim) hlocks hce hcv hcl (xxc_eq u hu hP hK hD hS) hS.2.2 (Nat.le_refl _) (Nat.le_refl _)
def rmx_X5_take_n : Room := { frames := 6, cells := 1, slots := 6, locals := 82 }
set_option maxHeartbeats 4000000 in
set_option maxRecDepth 100000 in
/-- no such page -/
theorem x_X5_take_n (l : Launch) (htr : l.stackTraces = false) (D : va_G) (cI cJ cZ cV cR : ClassId) (a : Nat → Nat) (C : CT) (hM : kOk C) (q v hs : Nat) (cu : Bool) (kp gv en : Nat) (ed : Bool) (n9 : Nat) (f9 : Nat → Nat) (hR : isR (k_L C) (k_F C) q v hs cu kp gv en ed) (hI : isI cI (k_L C) (k_F C) hs n9 f9) (hn9 : n9 ≤ 300) (hgv : gv ≤ n9) (hkp : kp ≤ 1000) (hen : en ≤ 2000000000) (j9 : Nat) (hj9 : j9 < k_rc C) (hq9 : k_rq C j9 = some q) (x : Int32) (hbad : x.toInt < 1 ∨ 50 < x.toInt) (sz : Nat) : vx_Met l yX5_take wsX5_take rmx_X5_take_n (va_Pc [.ref (a 0), .int (nI (j9)), .int (x)] (GX D (tyK cI cJ cZ cV cR) (kW cI cJ cZ cV cR a C) sz)) xNo (xXC D (tyK cI cJ cZ cV cR) "java/lang/IllegalArgumentException" (fun u : CT => u = C) (kW cI cJ cZ cV cR a) (va_A (kW cI cJ cZ cV cR a C) sz)) 1 6 (va_A (kW cI cJ cZ cV cR a C) sz) := by
  obtain ⟨hn, hfn, hsn, hvc, hrc, hpc, hnw, hkc, h_home, h_kin, h_alv, h_srs, h_row, h_sp, h_kis, h_pg⟩ := id hM
  refine vx_ofW (cc := cX5_take) (maxL := 4) (ret := (some .int)) (by decide) rfl ?_
  intro p e s m args below meth c s₁ B hml hout hv
  obtain ⟨rfl, ⟨hsz, hP, hK, hD0⟩, hXE⟩ := hv
  have hx := B.exec
  have hb := B.bytes
  have hr := B.returns
  have hts := atoms_spec (ws := wsX5_take) B.pre
  have hown : s.vm.findClass RX5 = some m.cls := findClass_of_methodNamed B.named
  have hlocks := B.notSynchronized
  subst hsz
  have hD := hD0.self (sz := s.heap.size)
  generalize hAe : va_A (kW cI cJ cZ cV cR a C) s.heap.size = A at hD hXE ⊢
  have hA : ∀ q : Nat, s.heap.size ≤ q → A q := fun q h => by rw [← hAe]; exact Or.inr h
  have hS : va_S A s.heap s.heap [] := va_S.rf
  have hP : va_P D vwCl (kX cI cJ cZ cV cR a (k_ra C) (k_rb C) (k_vc C) (k_rc C) (k_pc C) (k_nw C) (k_n C) (k_fn C) (k_sn C) (k_kc C) (k_grp C) (k_key C) (k_srt C) (k_wt C) (k_home C) (k_drp C) (k_met C) (k_kin C) (k_alv C) (k_srs C) (k_row C) (k_sp C) (k_kis C) (k_pg C) (k_vq C) (k_rq C) (k_L C) (k_F C)) s.heap := hP
  have hD : va_D A (kX cI cJ cZ cV cR a (k_ra C) (k_rb C) (k_vc C) (k_rc C) (k_pc C) (k_nw C) (k_n C) (k_fn C) (k_sn C) (k_kc C) (k_grp C) (k_key C) (k_srt C) (k_wt C) (k_home C) (k_drp C) (k_met C) (k_kin C) (k_alv C) (k_srs C) (k_row C) (k_sp C) (k_kis C) (k_pg C) (k_vq C) (k_rq C) (k_L C) (k_F C)) := hD
  have hf0 := hts (.classLink RX5 226 "java/lang/IllegalArgumentException") (by decide +kernel)
  have hf1 := hts (.initialized "java/lang/IllegalArgumentException") (by decide +kernel)
  have hl := lv_entry ([.ref (a 0), .int (nI (j9)), .int (x)]) (n := 4) (Nat.le_of_ble_eq_true rfl)
  rw [lg_entry_eq]
  generalize (lg_sl ([.ref (a 0), .int (nI (j9)), .int (x)]) ++ List.replicate (4 - (lg_sl ([.ref (a 0), .int (nI (j9)), .int (x)])).length) Slot.unset).toArray = ls at hl ⊢
  have hl : lv_has ls 4 [(0, .ref (a 0)), (1, .int (nI (j9))), (2, .int (x))] := hl
  refine lv_aload_n hx hb dX5_take_0 rfl (lv_at hl 0 rfl) ?_
  refine lv_iload_n hx hb dX5_take_1 rfl (lv_at hl 1 rfl) ?_
  have hPm : va_P D vwCl (kW cI cJ cZ cV cR a C) s.heap := by exact hP
  have hDm : va_D A (kW cI cJ cZ cV cR a C) := by exact hD
  refine wc_VWr (As := [.int (nI (j9))]) (rest := []) (ra := Prod.fst) (wf := fun u => kW cI cJ cZ cV cR a u.2) ⟨hx, hb, hml, hown, hts⟩ (c_X5_readerAt l D cI cJ cZ cV cR a C hM (j9) (q) (by omega) hq9 s.heap.size) (cwV 1 hts gX5_take_X5_readerAt rfl rfl rfl (by decide +kernel) ⟨Nat.le_of_ble_eq_true rfl, Nat.le_of_ble_eq_true rfl⟩) hPm hK hDm hS hA 0 rfl rfl rfl hl.1 rfl (Nat.le_of_ble_eq_true rfl) dX5_take_2 ⟨Nat.le_of_ble_eq_true rfl, Nat.le_of_ble_eq_true rfl⟩ (fun u1 hq1 H locs hP hD hS => ?_)
  have hu1 := hq1
  subst hu1
  have hP : va_P D vwCl (kX cI cJ cZ cV cR a (k_ra C) (k_rb C) (k_vc C) (k_rc C) (k_pc C) (k_nw C) (k_n C) (k_fn C) (k_sn C) (k_kc C) (k_grp C) (k_key C) (k_srt C) (k_wt C) (k_home C) (k_drp C) (k_met C) (k_kin C) (k_alv C) (k_srs C) (k_row C) (k_sp C) (k_kis C) (k_pg C) (k_vq C) (k_rq C) (k_L C) (k_F C)) H := hP
  have hD : va_D A (kX cI cJ cZ cV cR a (k_ra C) (k_rb C) (k_vc C) (k_rc C) (k_pc C) (k_nw C) (k_n C) (k_fn C) (k_sn C) (k_kc C) (k_grp C) (k_key C) (k_srt C) (k_wt C) (k_home C) (k_drp C) (k_met C) (k_kin C) (k_alv C) (k_srs C) (k_row C) (k_sp C) (k_kis C) (k_pg C) (k_vq C) (k_rq C) (k_L C) (k_F C)) := hD
  refine lv_astore_n (lv' := [(3, .ref (q)), (0, .ref (a 0)), (1, .int (nI (j9))), (2, .int (x))]) hx hb dX5_take_5 rfl hl (by decide) rfl (fun ls hl => ?_)
  refine lv_iload_n hx hb dX5_take_6 rfl (lv_at hl 3 rfl) ?_
  refine lv_iconst (v := nI (1)) hx hb dX5_take_7 (by decide) ?_
  refine wz_icmp_lt (tgt := 17) hx hb ((x).toInt) (((1 : Nat) : Int)) rfl (nI_z (by omega)) dX5_take_8 (by decide) (fun c8_2 => ?_) (fun c8_2 => ?_)
  · have hPm : va_P D vwCl (kW cI cJ cZ cV cR a C) H := by exact hP
    have hDm : va_D A (kW cI cJ cZ cV cR a C) := by exact hD
    obtain ⟨sa, hsa⟩ := hXE.2.2.2.2 ("GroupCursors", 228, "n is not 1 .. 50") (by decide)
    exact vx_throwS hx hb htr hown (by decide) (by decide) hf0 hf1 hsa (xat_X5_230 hXE (fun w hw => hts w (by unfold wsX5_take; simp only [List.mem_cons, List.mem_append, hw, or_true, true_or]))) xgd_X5_230 hXE.1 hXE.2.1 hS (hl.1.trans hml.symm) dX5_take_17 dX5_take_20 dX5_take_21 dX5_take_23 dX5_take_26 (fun x h => (hout x h).elim) (Nat.le_of_ble_eq_true rfl) (Nat.le_of_ble_eq_true rfl) (Nat.le_of_ble_eq_true rfl) (Nat.le_of_ble_eq_true rfl) hlocks (xxc_mk C rfl hPm hK hDm hS) hS.2.2 (Nat.le_refl _) (Nat.le_refl _)
  · refine lv_iload_n hx hb dX5_take_11 rfl (lv_at hl 3 rfl) ?_
    refine lv_bipush (v := nI (50)) hx hb dX5_take_12 (by decide) ?_
    refine wz_icmp_le (tgt := 27) hx hb ((x).toInt) (((50 : Nat) : Int)) rfl (nI_z (by omega)) dX5_take_14 (by decide) (fun c14_3 => ?_) (fun c14_3 => ?_)
    · exfalso; omega
    · have hPm : va_P D vwCl (kW cI cJ cZ cV cR a C) H := by exact hP
      have hDm : va_D A (kW cI cJ cZ cV cR a C) := by exact hD
      obtain ⟨sa, hsa⟩ := hXE.2.2.2.2 ("GroupCursors", 228, "n is not 1 .. 50") (by decide)
      exact vx_throwS hx hb htr hown (by decide) (by decide) hf0 hf1 hsa (xat_X5_230 hXE (fun w hw => hts w (by unfold wsX5_take; simp only [List.mem_cons, List.mem_append, hw, or_true, true_or]))) xgd_X5_230 hXE.1 hXE.2.1 hS (hl.1.trans hml.symm) dX5_take_17 dX5_take_20 dX5_take_21 dX5_take_23 dX5_take_26 (fun x h => (hout x h).elim) (Nat.le_of_ble_eq_true rfl) (Nat.le_of_ble_eq_true rfl) (Nat.le_of_ble_eq_true rfl) (Nat.le_of_ble_eq_true rfl) hlocks (xxc_mk C rfl hPm hK hDm hS) hS.2.2 (Nat.le_refl _) (Nat.le_refl _)
def rmx_X5_take_i : Room := { frames := 6, cells := 1, slots := 6, locals := 82 }
set_option maxHeartbeats 4000000 in
set_option maxRecDepth 100000 in
/-- an iterator -/
theorem x_X5_take_i (l : Launch) (htr : l.stackTraces = false) (D : va_G) (cI cJ cZ cV cR : ClassId) (a : Nat → Nat) (C : CT) (hM : kOk C) (q v hs : Nat) (cu : Bool) (kp gv en : Nat) (ed : Bool) (n9 : Nat) (f9 : Nat → Nat) (hR : isR (k_L C) (k_F C) q v hs cu kp gv en ed) (hI : isI cI (k_L C) (k_F C) hs n9 f9) (hn9 : n9 ≤ 300) (hgv : gv ≤ n9) (hkp : kp ≤ 1000) (hen : en ≤ 2000000000) (j9 : Nat) (hj9 : j9 < k_rc C) (hq9 : k_rq C j9 = some q) (m9 : Nat) (hm9 : 1 ≤ m9) (hm8 : m9 ≤ 50) (hcu : cu = false) (sz : Nat) : vx_Met l yX5_take wsX5_take rmx_X5_take_i (va_Pc [.ref (a 0), .int (nI (j9)), .int (nI (m9))] (GX D (tyK cI cJ cZ cV cR) (kW cI cJ cZ cV cR a C) sz)) xNo (xXC D (tyK cI cJ cZ cV cR) "java/lang/IllegalArgumentException" (fun u : CT => u = C) (kW cI cJ cZ cV cR a) (va_A (kW cI cJ cZ cV cR a C) sz)) 1 6 (va_A (kW cI cJ cZ cV cR a C) sz) := by
  obtain ⟨hn, hfn, hsn, hvc, hrc, hpc, hnw, hkc, h_home, h_kin, h_alv, h_srs, h_row, h_sp, h_kis, h_pg⟩ := id hM
  refine vx_ofW (cc := cX5_take) (maxL := 4) (ret := (some .int)) (by decide) rfl ?_
  intro p e s m args below meth c s₁ B hml hout hv
  obtain ⟨rfl, ⟨hsz, hP, hK, hD0⟩, hXE⟩ := hv
  have hx := B.exec
  have hb := B.bytes
  have hr := B.returns
  have hts := atoms_spec (ws := wsX5_take) B.pre
  have hown : s.vm.findClass RX5 = some m.cls := findClass_of_methodNamed B.named
  have hlocks := B.notSynchronized
  subst hsz
  have hD := hD0.self (sz := s.heap.size)
  generalize hAe : va_A (kW cI cJ cZ cV cR a C) s.heap.size = A at hD hXE ⊢
  have hA : ∀ q : Nat, s.heap.size ≤ q → A q := fun q h => by rw [← hAe]; exact Or.inr h
  have hS : va_S A s.heap s.heap [] := va_S.rf
  have hP : va_P D vwCl (kX cI cJ cZ cV cR a (k_ra C) (k_rb C) (k_vc C) (k_rc C) (k_pc C) (k_nw C) (k_n C) (k_fn C) (k_sn C) (k_kc C) (k_grp C) (k_key C) (k_srt C) (k_wt C) (k_home C) (k_drp C) (k_met C) (k_kin C) (k_alv C) (k_srs C) (k_row C) (k_sp C) (k_kis C) (k_pg C) (k_vq C) (k_rq C) (k_L C) (k_F C)) s.heap := hP
  have hD : va_D A (kX cI cJ cZ cV cR a (k_ra C) (k_rb C) (k_vc C) (k_rc C) (k_pc C) (k_nw C) (k_n C) (k_fn C) (k_sn C) (k_kc C) (k_grp C) (k_key C) (k_srt C) (k_wt C) (k_home C) (k_drp C) (k_met C) (k_kin C) (k_alv C) (k_srs C) (k_row C) (k_sp C) (k_kis C) (k_pg C) (k_vq C) (k_rq C) (k_L C) (k_F C)) := hD
  have hiX1 : ∀ w ∈ wsX10, w ∈ wsX5_take := by decide +kernel
  have hf0 := hts (.fieldLink RX5 231 "GroupCursors$Reader" "isCursor" "Z") (by decide +kernel)
  have hf1 := hts (.classLink RX5 226 "java/lang/IllegalArgumentException") (by decide +kernel)
  have hf2 := hts (.initialized "java/lang/IllegalArgumentException") (by decide +kernel)
  have hl := lv_entry ([.ref (a 0), .int (nI (j9)), .int (nI (m9))]) (n := 4) (Nat.le_of_ble_eq_true rfl)
  rw [lg_entry_eq]
  generalize (lg_sl ([.ref (a 0), .int (nI (j9)), .int (nI (m9))]) ++ List.replicate (4 - (lg_sl ([.ref (a 0), .int (nI (j9)), .int (nI (m9))])).length) Slot.unset).toArray = ls at hl ⊢
  have hl : lv_has ls 4 [(0, .ref (a 0)), (1, .int (nI (j9))), (2, .int (nI (m9)))] := hl
  refine lv_aload_n hx hb dX5_take_0 rfl (lv_at hl 0 rfl) ?_
  refine lv_iload_n hx hb dX5_take_1 rfl (lv_at hl 1 rfl) ?_
  have hPm : va_P D vwCl (kW cI cJ cZ cV cR a C) s.heap := by exact hP
  have hDm : va_D A (kW cI cJ cZ cV cR a C) := by exact hD
  refine wc_VWr (As := [.int (nI (j9))]) (rest := []) (ra := Prod.fst) (wf := fun u => kW cI cJ cZ cV cR a u.2) ⟨hx, hb, hml, hown, hts⟩ (c_X5_readerAt l D cI cJ cZ cV cR a C hM (j9) (q) (by omega) hq9 s.heap.size) (cwV 1 hts gX5_take_X5_readerAt rfl rfl rfl (by decide +kernel) ⟨Nat.le_of_ble_eq_true rfl, Nat.le_of_ble_eq_true rfl⟩) hPm hK hDm hS hA 0 rfl rfl rfl hl.1 rfl (Nat.le_of_ble_eq_true rfl) dX5_take_2 ⟨Nat.le_of_ble_eq_true rfl, Nat.le_of_ble_eq_true rfl⟩ (fun u1 hq1 H locs hP hD hS => ?_)
  have hu1 := hq1
  subst hu1
  have hP : va_P D vwCl (kX cI cJ cZ cV cR a (k_ra C) (k_rb C) (k_vc C) (k_rc C) (k_pc C) (k_nw C) (k_n C) (k_fn C) (k_sn C) (k_kc C) (k_grp C) (k_key C) (k_srt C) (k_wt C) (k_home C) (k_drp C) (k_met C) (k_kin C) (k_alv C) (k_srs C) (k_row C) (k_sp C) (k_kis C) (k_pg C) (k_vq C) (k_rq C) (k_L C) (k_F C)) H := hP
  have hD : va_D A (kX cI cJ cZ cV cR a (k_ra C) (k_rb C) (k_vc C) (k_rc C) (k_pc C) (k_nw C) (k_n C) (k_fn C) (k_sn C) (k_kc C) (k_grp C) (k_key C) (k_srt C) (k_wt C) (k_home C) (k_drp C) (k_met C) (k_kin C) (k_alv C) (k_srs C) (k_row C) (k_sp C) (k_kis C) (k_pg C) (k_vq C) (k_rq C) (k_L C) (k_F C)) := hD
  refine lv_astore_n (lv' := [(3, .ref (q)), (0, .ref (a 0)), (1, .int (nI (j9))), (2, .int (nI (m9)))]) hx hb dX5_take_5 rfl hl (by decide) rfl (fun ls hl => ?_)
  refine lv_iload_n hx hb dX5_take_6 rfl (lv_at hl 3 rfl) ?_
  refine lv_iconst (v := nI (1)) hx hb dX5_take_7 (by decide) ?_
  refine wn_icmp_lt (a := m9) (b := 1) (tgt := 17) hx hb (nI_z (by omega)) (nI_z (by omega)) dX5_take_8 (by decide) (fun c8_2 => ?_) (fun c8_2 => ?_)
  · exfalso; omega
  · refine lv_iload_n hx hb dX5_take_11 rfl (lv_at hl 3 rfl) ?_
    refine lv_bipush (v := nI (50)) hx hb dX5_take_12 (by decide) ?_
    refine wn_icmp_le (a := m9) (b := 50) (tgt := 27) hx hb (nI_z (by omega)) (nI_z (by omega)) dX5_take_14 (by decide) (fun c14_3 => ?_) (fun c14_3 => ?_)
    · refine lv_aload_n hx hb dX5_take_27 rfl (lv_at hl 0 rfl) ?_
      refine wp_get (ci := 1) (v := .int (bI (cu))) (C := RX1) (T := TX1) (N := 7) hx hb hts hiX1 hown hK hP hR.1 hR.2 rfl 2 (by decide) hf0 (fun _ h9 => h9) rfl dX5_take_28 ?_
      refine wb_if_ne (tgt := 44) hx hb dX5_take_31 (by decide) (fun c31_4 => ?_) (fun c31_4 => ?_)
      · exact absurd (hcu.symm.trans c31_4) (by decide)
      · have hPm : va_P D vwCl (kW cI cJ cZ cV cR a C) H := by exact hP
        have hDm : va_D A (kW cI cJ cZ cV cR a C) := by exact hD
        obtain ⟨sa, hsa⟩ := hXE.2.2.2.2 ("GroupCursors", 235, "an iterator gives no pages") (by decide)
        exact vx_throwS hx hb htr hown (by decide) (by decide) hf1 hf2 hsa (xat_X5_230 hXE (fun w hw => hts w (by unfold wsX5_take; simp only [List.mem_cons, List.mem_append, hw, or_true, true_or]))) xgd_X5_230 hXE.1 hXE.2.1 hS (hl.1.trans hml.symm) dX5_take_34 dX5_take_37 dX5_take_38 dX5_take_40 dX5_take_43 (fun x h => (hout x h).elim) (Nat.le_of_ble_eq_true rfl) (Nat.le_of_ble_eq_true rfl) (Nat.le_of_ble_eq_true rfl) (Nat.le_of_ble_eq_true rfl) hlocks (xxc_mk C rfl hPm hK hDm hS) hS.2.2 (Nat.le_refl _) (Nat.le_refl _)
    · exfalso; omega
def rm_X5_next : Room := { frames := 5, cells := 0, slots := 0, locals := 107 }
set_option maxHeartbeats 4000000 in
set_option maxRecDepth 100000 in
/-- the next hit -/
theorem c_X5_next (l : Launch) (D : va_G) (cI cJ cZ cV cR : ClassId) (a : Nat → Nat) (C : CT) (hM : kOk C) (q v hs : Nat) (cu : Bool) (kp gv en : Nat) (ed : Bool) (n9 : Nat) (f9 : Nat → Nat) (hR : isR (k_L C) (k_F C) q v hs cu kp gv en ed) (hI : isI cI (k_L C) (k_F C) hs n9 f9) (hn9 : n9 ≤ 300) (hgv : gv ≤ n9) (hkp : kp ≤ 1000) (hen : en ≤ 2000000000) (vh se c9 g9 st9 r9 sn9 : Nat) (sf : Nat → Bool) (hV : isV (k_L C) (k_F C) v vh se c9 g9 st9 r9) (hc9 : c9 ≤ 300) (hg9 : g9 ≤ 300) (hst9 : st9 ≤ 2) (hr9 : r9 ≤ 60) (hZ : isZ cZ (k_L C) (k_F C) se sn9 sf) (hsn9 : sn9 ≤ 40) (hpos : st9 ≠ 2 → ∀ i, i < sn9 → sf i = true → 0 < k_srs C i) (hrr : ed = false → 0 < r9) (j9 : Nat) (hj9 : j9 < k_rc C) (hq9 : k_rq C j9 = some q) (hcu : cu = false) (hed : ed = false) (hne : gv < n9) (sz : Nat) : Met l yX5_next wsX5_next rm_X5_next (va_Pc [.ref (a 0), .int (nI (j9))] (GW D (tyK cI cJ cZ cV cR) (kW cI cJ cZ cV cR a C) sz)) (va_Qi (fun rr u => rr = nI (f9 gv) ∧ u = egM (nxC C q v hs cu kp gv en ed) q v hs cu kp (gv + 1) en ed n9 vh se c9 g9 st9 r9 sn9 sf) (fun u => GB D (tyK cI cJ cZ cV cR) (va_A (kW cI cJ cZ cV cR a C) sz) (kW cI cJ cZ cV cR a u)) (va_A (kW cI cJ cZ cV cR a C) sz)) 0 0 (va_A (kW cI cJ cZ cV cR a C) sz) := by
  obtain ⟨hn, hfn, hsn, hvc, hrc, hpc, hnw, hkc, h_home, h_kin, h_alv, h_srs, h_row, h_sp, h_kis, h_pg⟩ := id hM
  refine Met.ofW (cc := cX5_next) (maxL := 4) (ret := (some .int)) (by decide) rfl ?_
  intro p e s m args below meth c s₁ B hml hv
  obtain ⟨rfl, hsz, hP, hK, hD0⟩ := hv
  have hx := B.exec
  have hb := B.bytes
  have hr := B.returns
  have hts := atoms_spec (ws := wsX5_next) B.pre
  have hown : s.vm.findClass RX5 = some m.cls := findClass_of_methodNamed B.named
  have hlocks := B.notSynchronized
  subst hsz
  have hD := hD0.self (sz := s.heap.size)
  generalize hAe : va_A (kW cI cJ cZ cV cR a C) s.heap.size = A at hD ⊢
  have hA : ∀ q : Nat, s.heap.size ≤ q → A q := fun q h => by rw [← hAe]; exact Or.inr h
  have hS : va_S A s.heap s.heap [] := va_S.rf
  have hP : va_P D vwCl (kX cI cJ cZ cV cR a (k_ra C) (k_rb C) (k_vc C) (k_rc C) (k_pc C) (k_nw C) (k_n C) (k_fn C) (k_sn C) (k_kc C) (k_grp C) (k_key C) (k_srt C) (k_wt C) (k_home C) (k_drp C) (k_met C) (k_kin C) (k_alv C) (k_srs C) (k_row C) (k_sp C) (k_kis C) (k_pg C) (k_vq C) (k_rq C) (k_L C) (k_F C)) s.heap := hP
  have hD : va_D A (kX cI cJ cZ cV cR a (k_ra C) (k_rb C) (k_vc C) (k_rc C) (k_pc C) (k_nw C) (k_n C) (k_fn C) (k_sn C) (k_kc C) (k_grp C) (k_key C) (k_srt C) (k_wt C) (k_home C) (k_drp C) (k_met C) (k_kin C) (k_alv C) (k_srs C) (k_row C) (k_sp C) (k_kis C) (k_pg C) (k_vq C) (k_rq C) (k_L C) (k_F C)) := hD
  have hiX1 : ∀ w ∈ wsX10, w ∈ wsX5_next := by decide +kernel
  have hf0 := hts (.fieldLink RX5 231 "GroupCursors$Reader" "isCursor" "Z") (by decide +kernel)
  have hf1 := hts (.fieldLink RX5 237 "GroupCursors$Reader" "ended" "Z") (by decide +kernel)
  have hf2 := hts (.fieldLink RX5 248 "GroupCursors$Reader" "hits" "[I") (by decide +kernel)
  have hf3 := hts (.fieldLink RX5 251 "GroupCursors$Reader" "given" "I") (by decide +kernel)
  have hl := lv_entry ([.ref (a 0), .int (nI (j9))]) (n := 4) (Nat.le_of_ble_eq_true rfl)
  rw [lg_entry_eq]
  generalize (lg_sl ([.ref (a 0), .int (nI (j9))]) ++ List.replicate (4 - (lg_sl ([.ref (a 0), .int (nI (j9))])).length) Slot.unset).toArray = ls at hl ⊢
  have hl : lv_has ls 4 [(0, .ref (a 0)), (1, .int (nI (j9)))] := hl
  refine lv_aload_n hx hb dX5_next_0 rfl (lv_at hl 0 rfl) ?_
  refine lv_iload_n hx hb dX5_next_1 rfl (lv_at hl 1 rfl) ?_
  have hPm : va_P D vwCl (kW cI cJ cZ cV cR a C) s.heap := by exact hP
  have hDm : va_D A (kW cI cJ cZ cV cR a C) := by exact hD
  refine wc_VWr (As := [.int (nI (j9))]) (rest := []) (ra := Prod.fst) (wf := fun u => kW cI cJ cZ cV cR a u.2) ⟨hx, hb, hml, hown, hts⟩ (c_X5_readerAt l D cI cJ cZ cV cR a C hM (j9) (q) (by omega) hq9 s.heap.size) (cwV 1 hts gX5_next_X5_readerAt rfl rfl rfl (by decide +kernel) ⟨Nat.le_of_ble_eq_true rfl, Nat.le_of_ble_eq_true rfl⟩) hPm hK hDm hS hA 0 rfl rfl rfl hl.1 rfl (Nat.le_of_ble_eq_true rfl) dX5_next_2 ⟨Nat.le_of_ble_eq_true rfl, Nat.le_of_ble_eq_true rfl⟩ (fun u1 hq1 H locs hP hD hS => ?_)
  have hu1 := hq1
  subst hu1
  have hP : va_P D vwCl (kX cI cJ cZ cV cR a (k_ra C) (k_rb C) (k_vc C) (k_rc C) (k_pc C) (k_nw C) (k_n C) (k_fn C) (k_sn C) (k_kc C) (k_grp C) (k_key C) (k_srt C) (k_wt C) (k_home C) (k_drp C) (k_met C) (k_kin C) (k_alv C) (k_srs C) (k_row C) (k_sp C) (k_kis C) (k_pg C) (k_vq C) (k_rq C) (k_L C) (k_F C)) H := hP
  have hD : va_D A (kX cI cJ cZ cV cR a (k_ra C) (k_rb C) (k_vc C) (k_rc C) (k_pc C) (k_nw C) (k_n C) (k_fn C) (k_sn C) (k_kc C) (k_grp C) (k_key C) (k_srt C) (k_wt C) (k_home C) (k_drp C) (k_met C) (k_kin C) (k_alv C) (k_srs C) (k_row C) (k_sp C) (k_kis C) (k_pg C) (k_vq C) (k_rq C) (k_L C) (k_F C)) := hD
  refine lv_astore_n (lv' := [(2, .ref (q)), (0, .ref (a 0)), (1, .int (nI (j9)))]) hx hb dX5_next_5 rfl hl (by decide) rfl (fun ls hl => ?_)
  refine lv_aload_n hx hb dX5_next_6 rfl (lv_at hl 0 rfl) ?_
  refine wp_get (ci := 1) (v := .int (bI (cu))) (C := RX1) (T := TX1) (N := 7) hx hb hts hiX1 hown hK hP hR.1 hR.2 rfl 2 (by decide) hf0 (fun _ h9 => h9) rfl dX5_next_7 ?_
  refine wb_if_eq (tgt := 24) hx hb dX5_next_10 (by decide) (fun c10_2 => ?_) (fun c10_2 => ?_)
  · refine lv_aload_n hx hb dX5_next_24 rfl (lv_at hl 0 rfl) ?_
    refine wp_get (ci := 1) (v := .int (bI (ed))) (C := RX1) (T := TX1) (N := 7) hx hb hts hiX1 hown hK hP hR.1 hR.2 rfl 6 (by decide) hf1 (fun _ h9 => h9) rfl dX5_next_25 ?_
    refine wb_if_ne (tgt := 38) hx hb dX5_next_28 (by decide) (fun c28_3 => ?_) (fun c28_3 => ?_)
    · exact absurd (hed.symm.trans c28_3) (by decide)
    · refine lv_aload_n hx hb dX5_next_31 rfl (lv_at hl 0 rfl) ?_
      have hPm : va_P D vwCl (kW cI cJ cZ cV cR a C) H := by exact hP
      have hDm : va_D A (kW cI cJ cZ cV cR a C) := by exact hD
      obtain ⟨k4, hk4⟩ := kW_at (cI := cI) (cJ := cJ) (cZ := cZ) (cV := cV) (cR := cR) (a := a) (C := C) (e := .inr (1, [.ref (v), .ref (hs), .int (bI (cu)), .int (nI (kp)), .int (nI (gv)), .int (nI (en)), .int (bI (ed))])) hR
      refine wc_VWi (As := []) (rest := []) (wf := kW cI cJ cZ cV cR a) ⟨hx, hb, hml, hown, hts⟩ (c_X1_countLeft l D cI cJ cZ cV cR a C hM (q) (v) (hs) (cu) (kp) (gv) (en) (ed) (n9) (f9) hR hI (by omega) (by omega) (by omega) (by omega) H.size) (cwV 0 hts gX5_next_X1_countLeft rfl rfl rfl (by decide +kernel) ⟨Nat.le_of_ble_eq_true rfl, Nat.le_of_ble_eq_true rfl⟩) hPm hK hDm hS hA k4 hk4 rfl rfl hl.1 rfl (Nat.le_of_ble_eq_true rfl) dX5_next_32 ⟨Nat.zero_le _, Nat.zero_le _⟩ (fun rr u4 hq4 H locs hP hD hS => ?_)
      obtain ⟨hr4, hu4⟩ := hq4
      subst hr4
      have hu4 := hu4.symm
      subst hu4
      have hP : va_P D vwCl (kX cI cJ cZ cV cR a (k_ra C) (k_rb C) (k_vc C) (k_rc C) (k_pc C) (k_nw C) (k_n C) (k_fn C) (k_sn C) (k_kc C) (k_grp C) (k_key C) (k_srt C) (k_wt C) (k_home C) (k_drp C) (k_met C) (k_kin C) (k_alv C) (k_srs C) (k_row C) (k_sp C) (k_kis C) (k_pg C) (k_vq C) (k_rq C) (k_L C) (k_F C)) H := hP
      have hD : va_D A (kX cI cJ cZ cV cR a (k_ra C) (k_rb C) (k_vc C) (k_rc C) (k_pc C) (k_nw C) (k_n C) (k_fn C) (k_sn C) (k_kc C) (k_grp C) (k_key C) (k_srt C) (k_wt C) (k_home C) (k_drp C) (k_met C) (k_kin C) (k_alv C) (k_srs C) (k_row C) (k_sp C) (k_kis C) (k_pg C) (k_vq C) (k_rq C) (k_L C) (k_F C)) := hD
      refine wn_if_ne (a := n9 - gv) (tgt := 49) hx hb (nI_z (by omega)) dX5_next_35 (by decide) (fun c35_5 => ?_) (fun c35_5 => ?_)
      · refine lv_aload_n hx hb dX5_next_49 rfl (lv_at hl 0 rfl) ?_
        refine wp_get (ci := 1) (v := .ref (hs)) (C := RX1) (T := TX1) (N := 7) hx hb hts hiX1 hown hK hP hR.1 hR.2 rfl 1 (by decide) hf2 (fun _ h9 => h9) rfl dX5_next_50 ?_
        refine lv_aload_n hx hb dX5_next_53 rfl (lv_at hl 0 rfl) ?_
        refine wp_get (ci := 1) (v := .int (nI (gv))) (C := RX1) (T := TX1) (N := 7) hx hb hts hiX1 hown hK hP hR.1 hR.2 rfl 4 (by decide) hf3 (fun _ h9 => h9) rfl dX5_next_54 ?_
        refine wp_i (i := gv) (v := nI (f9 gv)) hx hb hK hP hI.1 0 hI.2 rfl rfl (by omega) (by omega) dX5_next_57 ?_
        refine lv_istore_n (lv' := [(3, .int (nI (f9 gv))), (2, .ref (q)), (0, .ref (a 0)), (1, .int (nI (j9)))]) hx hb dX5_next_58 rfl hl (by decide) rfl (fun ls hl => ?_)
        refine lv_aload_n hx hb dX5_next_59 rfl (lv_at hl 1 rfl) ?_
        refine lv_dup hx hb dX5_next_60 rfl ?_
        refine wp_get (ci := 1) (v := .int (nI (gv))) (C := RX1) (T := TX1) (N := 7) hx hb hts hiX1 hown hK hP hR.1 hR.2 rfl 4 (by decide) hf3 (fun _ h9 => h9) rfl dX5_next_61 ?_
        refine lv_iconst (v := nI (1)) hx hb dX5_next_64 (by decide) ?_
        refine lv_iadd hx hb dX5_next_65 (ww_top (y := nI (gv + 1)) (nI_addn _ _) ?_)
        refine wp_put (ci := 1) (v := .int (nI (gv + 1))) (ty := .int) (C := RX1) (T := TX1) (N := 7) hx hb hts hiX1 tyX1 tyX1_ok nmX1 hown hK hP hD hS hR.1 hR.2 rfl 4 (by decide) hf3 (fun _ h9 => h9) rfl (by decide +kernel) rfl rfl (Nat.le_of_ble_eq_true rfl) dX5_next_66 (fun H locs hP hD hS => ?_)
        have hP : va_P D vwCl (kX cI cJ cZ cV cR a (k_ra C) (k_rb C) (k_vc C) (k_rc C) (k_pc C) (k_nw C) (k_n C) (k_fn C) (k_sn C) (k_kc C) (k_grp C) (k_key C) (k_srt C) (k_wt C) (k_home C) (k_drp C) (k_met C) (k_kin C) (k_alv C) (k_srs C) (k_row C) (k_sp C) (k_kis C) (k_pg C) (k_vq C) (k_rq C) (k_L C) (va_up (k_F C) (q) (.inr (1, [.ref (v), .ref (hs), .int (bI (cu)), .int (nI (kp)), .int (nI (gv + 1)), .int (nI (en)), .int (bI (ed))])))) H := hP
        have hD : va_D A (kX cI cJ cZ cV cR a (k_ra C) (k_rb C) (k_vc C) (k_rc C) (k_pc C) (k_nw C) (k_n C) (k_fn C) (k_sn C) (k_kc C) (k_grp C) (k_key C) (k_srt C) (k_wt C) (k_home C) (k_drp C) (k_met C) (k_kin C) (k_alv C) (k_srs C) (k_row C) (k_sp C) (k_kis C) (k_pg C) (k_vq C) (k_rq C) (k_L C) (va_up (k_F C) (q) (.inr (1, [.ref (v), .ref (hs), .int (bI (cu)), .int (nI (kp)), .int (nI (gv + 1)), .int (nI (en)), .int (bI (ed))])))) := hD
        have hp6_0 : isI cI (k_L C) (va_up (k_F C) (q) (.inr (1, [.ref (v), .ref (hs), .int (bI (cu)), .int (nI (kp)), .int (nI (gv + 1)), .int (nI (en)), .int (bI (ed))]))) (hs) (n9) (f9) := isE.keep hI (ne_of_F hI.2 hR.2 (fun h => nomatch h))
        have hp6_1 : isV (k_L C) (va_up (k_F C) (q) (.inr (1, [.ref (v), .ref (hs), .int (bI (cu)), .int (nI (kp)), .int (nI (gv + 1)), .int (nI (en)), .int (bI (ed))]))) (v) (vh) (se) (c9) (g9) (st9) (r9) := isE.keep hV (ne_of_F hV.2 hR.2 (fun h => nomatch h))
        have hp6_2 : isZ cZ (k_L C) (va_up (k_F C) (q) (.inr (1, [.ref (v), .ref (hs), .int (bI (cu)), .int (nI (kp)), .int (nI (gv + 1)), .int (nI (en)), .int (bI (ed))]))) (se) (sn9) (sf) := isE.keep hZ (ne_of_F hZ.2 hR.2 (fun h => nomatch h))
        have hp6_q : isR (k_L C) (va_up (k_F C) (q) (.inr (1, [.ref (v), .ref (hs), .int (bI (cu)), .int (nI (kp)), .int (nI (gv + 1)), .int (nI (en)), .int (bI (ed))]))) (q) (v) (hs) (cu) (kp) (gv + 1) (en) (ed) := ⟨hR.1, va_up_self _ _ _⟩
        refine lv_aload_n hx hb dX5_next_69 rfl (lv_at hl 2 rfl) ?_
        refine lv_aload_n hx hb dX5_next_70 rfl (lv_at hl 1 rfl) ?_
        have hPm : va_P D vwCl (kW cI cJ cZ cV cR a (mkC (k_ra C) (k_rb C) (k_vc C) (k_rc C) (k_pc C) (k_nw C) (k_n C) (k_fn C) (k_sn C) (k_kc C) (k_grp C) (k_key C) (k_srt C) (k_wt C) (k_home C) (k_drp C) (k_met C) (k_kin C) (k_alv C) (k_srs C) (k_row C) (k_sp C) (k_kis C) (k_pg C) (k_vq C) (k_rq C) (k_L C) (va_up (k_F C) (q) (.inr (1, [.ref (v), .ref (hs), .int (bI (cu)), .int (nI (kp)), .int (nI (gv + 1)), .int (nI (en)), .int (bI (ed))]))))) H := by rw [← kX_mk]; exact hP
        have hDm : va_D A (kW cI cJ cZ cV cR a (mkC (k_ra C) (k_rb C) (k_vc C) (k_rc C) (k_pc C) (k_nw C) (k_n C) (k_fn C) (k_sn C) (k_kc C) (k_grp C) (k_key C) (k_srt C) (k_wt C) (k_home C) (k_drp C) (k_met C) (k_kin C) (k_alv C) (k_srs C) (k_row C) (k_sp C) (k_kis C) (k_pg C) (k_vq C) (k_rq C) (k_L C) (va_up (k_F C) (q) (.inr (1, [.ref (v), .ref (hs), .int (bI (cu)), .int (nI (kp)), .int (nI (gv + 1)), .int (nI (en)), .int (bI (ed))]))))) := by rw [← kX_mk]; exact hD
        refine wc_VWv (As := [.ref (q)]) (rest := []) (wf := kW cI cJ cZ cV cR a) ⟨hx, hb, hml, hown, hts⟩ (c_X5_endIfAllGiven l D cI cJ cZ cV cR a (mkC (k_ra C) (k_rb C) (k_vc C) (k_rc C) (k_pc C) (k_nw C) (k_n C) (k_fn C) (k_sn C) (k_kc C) (k_grp C) (k_key C) (k_srt C) (k_wt C) (k_home C) (k_drp C) (k_met C) (k_kin C) (k_alv C) (k_srs C) (k_row C) (k_sp C) (k_kis C) (k_pg C) (k_vq C) (k_rq C) (k_L C) (va_up (k_F C) (q) (.inr (1, [.ref (v), .ref (hs), .int (bI (cu)), .int (nI (kp)), .int (nI (gv + 1)), .int (nI (en)), .int (bI (ed))])))) (ok_any hM) (q) (v) (hs) (cu) (kp) (gv + 1) (en) (ed) (n9) (f9) (by rw [mkC_L, mkC_F]; exact hp6_q) (by rw [mkC_L, mkC_F]; exact hp6_0) (by omega) (by omega) (by omega) (by omega) (vh) (se) (c9) (g9) (st9) (r9) (sn9) (sf) (by rw [mkC_L, mkC_F]; exact hp6_1) (by omega) (by omega) (by omega) (by omega) (by rw [mkC_L, mkC_F]; exact hp6_2) (by omega) (fun hz9 => (by rw [mkC_srs]; exact hpos (by omega))) hrr H.size) (cwV 1 hts gX5_next_X5_endIfAllGiven rfl rfl rfl (by decide +kernel) ⟨Nat.le_of_ble_eq_true rfl, Nat.le_of_ble_eq_true rfl⟩) hPm hK hDm hS hA 0 rfl rfl rfl hl.1 rfl (Nat.le_of_ble_eq_true rfl) dX5_next_71 ⟨Nat.le_of_ble_eq_true rfl, Nat.le_of_ble_eq_true rfl⟩ (fun u7 hq7 H locs hP hD hS => ?_)
        have hu7 := hq7.symm
        subst hu7
        have hP : va_P D vwCl (kX cI cJ cZ cV cR a (k_ra (egM (mkC (k_ra C) (k_rb C) (k_vc C) (k_rc C) (k_pc C) (k_nw C) (k_n C) (k_fn C) (k_sn C) (k_kc C) (k_grp C) (k_key C) (k_srt C) (k_wt C) (k_home C) (k_drp C) (k_met C) (k_kin C) (k_alv C) (k_srs C) (k_row C) (k_sp C) (k_kis C) (k_pg C) (k_vq C) (k_rq C) (k_L C) (va_up (k_F C) (q) (.inr (1, [.ref (v), .ref (hs), .int (bI (cu)), .int (nI (kp)), .int (nI (gv + 1)), .int (nI (en)), .int (bI (ed))])))) (q) (v) (hs) (cu) (kp) (gv + 1) (en) (ed) (n9) (vh) (se) (c9) (g9) (st9) (r9) (sn9) (sf))) (k_rb (egM (mkC (k_ra C) (k_rb C) (k_vc C) (k_rc C) (k_pc C) (k_nw C) (k_n C) (k_fn C) (k_sn C) (k_kc C) (k_grp C) (k_key C) (k_srt C) (k_wt C) (k_home C) (k_drp C) (k_met C) (k_kin C) (k_alv C) (k_srs C) (k_row C) (k_sp C) (k_kis C) (k_pg C) (k_vq C) (k_rq C) (k_L C) (va_up (k_F C) (q) (.inr (1, [.ref (v), .ref (hs), .int (bI (cu)), .int (nI (kp)), .int (nI (gv + 1)), .int (nI (en)), .int (bI (ed))])))) (q) (v) (hs) (cu) (kp) (gv + 1) (en) (ed) (n9) (vh) (se) (c9) (g9) (st9) (r9) (sn9) (sf))) (k_vc (egM (mkC (k_ra C) (k_rb C) (k_vc C) (k_rc C) (k_pc C) (k_nw C) (k_n C) (k_fn C) (k_sn C) (k_kc C) (k_grp C) (k_key C) (k_srt C) (k_wt C) (k_home C) (k_drp C) (k_met C) (k_kin C) (k_alv C) (k_srs C) (k_row C) (k_sp C) (k_kis C) (k_pg C) (k_vq C) (k_rq C) (k_L C) (va_up (k_F C) (q) (.inr (1, [.ref (v), .ref (hs), .int (bI (cu)), .int (nI (kp)), .int (nI (gv + 1)), .int (nI (en)), .int (bI (ed))])))) (q) (v) (hs) (cu) (kp) (gv + 1) (en) (ed) (n9) (vh) (se) (c9) (g9) (st9) (r9) (sn9) (sf))) (k_rc (egM (mkC (k_ra C) (k_rb C) (k_vc C) (k_rc C) (k_pc C) (k_nw C) (k_n C) (k_fn C) (k_sn C) (k_kc C) (k_grp C) (k_key C) (k_srt C) (k_wt C) (k_home C) (k_drp C) (k_met C) (k_kin C) (k_alv C) (k_srs C) (k_row C) (k_sp C) (k_kis C) (k_pg C) (k_vq C) (k_rq C) (k_L C) (va_up (k_F C) (q) (.inr (1, [.ref (v), .ref (hs), .int (bI (cu)), .int (nI (kp)), .int (nI (gv + 1)), .int (nI (en)), .int (bI (ed))])))) (q) (v) (hs) (cu) (kp) (gv + 1) (en) (ed) (n9) (vh) (se) (c9) (g9) (st9) (r9) (sn9) (sf))) (k_pc (egM (mkC (k_ra C) (k_rb C) (k_vc C) (k_rc C) (k_pc C) (k_nw C) (k_n C) (k_fn C) (k_sn C) (k_kc C) (k_grp C) (k_key C) (k_srt C) (k_wt C) (k_home C) (k_drp C) (k_met C) (k_kin C) (k_alv C) (k_srs C) (k_row C) (k_sp C) (k_kis C) (k_pg C) (k_vq C) (k_rq C) (k_L C) (va_up (k_F C) (q) (.inr (1, [.ref (v), .ref (hs), .int (bI (cu)), .int (nI (kp)), .int (nI (gv + 1)), .int (nI (en)), .int (bI (ed))])))) (q) (v) (hs) (cu) (kp) (gv + 1) (en) (ed) (n9) (vh) (se) (c9) (g9) (st9) (r9) (sn9) (sf))) (k_nw (egM (mkC (k_ra C) (k_rb C) (k_vc C) (k_rc C) (k_pc C) (k_nw C) (k_n C) (k_fn C) (k_sn C) (k_kc C) (k_grp C) (k_key C) (k_srt C) (k_wt C) (k_home C) (k_drp C) (k_met C) (k_kin C) (k_alv C) (k_srs C) (k_row C) (k_sp C) (k_kis C) (k_pg C) (k_vq C) (k_rq C) (k_L C) (va_up (k_F C) (q) (.inr (1, [.ref (v), .ref (hs), .int (bI (cu)), .int (nI (kp)), .int (nI (gv + 1)), .int (nI (en)), .int (bI (ed))])))) (q) (v) (hs) (cu) (kp) (gv + 1) (en) (ed) (n9) (vh) (se) (c9) (g9) (st9) (r9) (sn9) (sf))) (k_n (egM (mkC (k_ra C) (k_rb C) (k_vc C) (k_rc C) (k_pc C) (k_nw C) (k_n C) (k_fn C) (k_sn C) (k_kc C) (k_grp C) (k_key C) (k_srt C) (k_wt C) (k_home C) (k_drp C) (k_met C) (k_kin C) (k_alv C) (k_srs C) (k_row C) (k_sp C) (k_kis C) (k_pg C) (k_vq C) (k_rq C) (k_L C) (va_up (k_F C) (q) (.inr (1, [.ref (v), .ref (hs), .int (bI (cu)), .int (nI (kp)), .int (nI (gv + 1)), .int (nI (en)), .int (bI (ed))])))) (q) (v) (hs) (cu) (kp) (gv + 1) (en) (ed) (n9) (vh) (se) (c9) (g9) (st9) (r9) (sn9) (sf))) (k_fn (egM (mkC (k_ra C) (k_rb C) (k_vc C) (k_rc C) (k_pc C) (k_nw C) (k_n C) (k_fn C) (k_sn C) (k_kc C) (k_grp C) (k_key C) (k_srt C) (k_wt C) (k_home C) (k_drp C) (k_met C) (k_kin C) (k_alv C) (k_srs C) (k_row C) (k_sp C) (k_kis C) (k_pg C) (k_vq C) (k_rq C) (k_L C) (va_up (k_F C) (q) (.inr (1, [.ref (v), .ref (hs), .int (bI (cu)), .int (nI (kp)), .int (nI (gv + 1)), .int (nI (en)), .int (bI (ed))])))) (q) (v) (hs) (cu) (kp) (gv + 1) (en) (ed) (n9) (vh) (se) (c9) (g9) (st9) (r9) (sn9) (sf))) (k_sn (egM (mkC (k_ra C) (k_rb C) (k_vc C) (k_rc C) (k_pc C) (k_nw C) (k_n C) (k_fn C) (k_sn C) (k_kc C) (k_grp C) (k_key C) (k_srt C) (k_wt C) (k_home C) (k_drp C) (k_met C) (k_kin C) (k_alv C) (k_srs C) (k_row C) (k_sp C) (k_kis C) (k_pg C) (k_vq C) (k_rq C) (k_L C) (va_up (k_F C) (q) (.inr (1, [.ref (v), .ref (hs), .int (bI (cu)), .int (nI (kp)), .int (nI (gv + 1)), .int (nI (en)), .int (bI (ed))])))) (q) (v) (hs) (cu) (kp) (gv + 1) (en) (ed) (n9) (vh) (se) (c9) (g9) (st9) (r9) (sn9) (sf))) (k_kc (egM (mkC (k_ra C) (k_rb C) (k_vc C) (k_rc C) (k_pc C) (k_nw C) (k_n C) (k_fn C) (k_sn C) (k_kc C) (k_grp C) (k_key C) (k_srt C) (k_wt C) (k_home C) (k_drp C) (k_met C) (k_kin C) (k_alv C) (k_srs C) (k_row C) (k_sp C) (k_kis C) (k_pg C) (k_vq C) (k_rq C) (k_L C) (va_up (k_F C) (q) (.inr (1, [.ref (v), .ref (hs), .int (bI (cu)), .int (nI (kp)), .int (nI (gv + 1)), .int (nI (en)), .int (bI (ed))])))) (q) (v) (hs) (cu) (kp) (gv + 1) (en) (ed) (n9) (vh) (se) (c9) (g9) (st9) (r9) (sn9) (sf))) (k_grp (egM (mkC (k_ra C) (k_rb C) (k_vc C) (k_rc C) (k_pc C) (k_nw C) (k_n C) (k_fn C) (k_sn C) (k_kc C) (k_grp C) (k_key C) (k_srt C) (k_wt C) (k_home C) (k_drp C) (k_met C) (k_kin C) (k_alv C) (k_srs C) (k_row C) (k_sp C) (k_kis C) (k_pg C) (k_vq C) (k_rq C) (k_L C) (va_up (k_F C) (q) (.inr (1, [.ref (v), .ref (hs), .int (bI (cu)), .int (nI (kp)), .int (nI (gv + 1)), .int (nI (en)), .int (bI (ed))])))) (q) (v) (hs) (cu) (kp) (gv + 1) (en) (ed) (n9) (vh) (se) (c9) (g9) (st9) (r9) (sn9) (sf))) (k_key (egM (mkC (k_ra C) (k_rb C) (k_vc C) (k_rc C) (k_pc C) (k_nw C) (k_n C) (k_fn C) (k_sn C) (k_kc C) (k_grp C) (k_key C) (k_srt C) (k_wt C) (k_home C) (k_drp C) (k_met C) (k_kin C) (k_alv C) (k_srs C) (k_row C) (k_sp C) (k_kis C) (k_pg C) (k_vq C) (k_rq C) (k_L C) (va_up (k_F C) (q) (.inr (1, [.ref (v), .ref (hs), .int (bI (cu)), .int (nI (kp)), .int (nI (gv + 1)), .int (nI (en)), .int (bI (ed))])))) (q) (v) (hs) (cu) (kp) (gv + 1) (en) (ed) (n9) (vh) (se) (c9) (g9) (st9) (r9) (sn9) (sf))) (k_srt (egM (mkC (k_ra C) (k_rb C) (k_vc C) (k_rc C) (k_pc C) (k_nw C) (k_n C) (k_fn C) (k_sn C) (k_kc C) (k_grp C) (k_key C) (k_srt C) (k_wt C) (k_home C) (k_drp C) (k_met C) (k_kin C) (k_alv C) (k_srs C) (k_row C) (k_sp C) (k_kis C) (k_pg C) (k_vq C) (k_rq C) (k_L C) (va_up (k_F C) (q) (.inr (1, [.ref (v), .ref (hs), .int (bI (cu)), .int (nI (kp)), .int (nI (gv + 1)), .int (nI (en)), .int (bI (ed))])))) (q) (v) (hs) (cu) (kp) (gv + 1) (en) (ed) (n9) (vh) (se) (c9) (g9) (st9) (r9) (sn9) (sf))) (k_wt (egM (mkC (k_ra C) (k_rb C) (k_vc C) (k_rc C) (k_pc C) (k_nw C) (k_n C) (k_fn C) (k_sn C) (k_kc C) (k_grp C) (k_key C) (k_srt C) (k_wt C) (k_home C) (k_drp C) (k_met C) (k_kin C) (k_alv C) (k_srs C) (k_row C) (k_sp C) (k_kis C) (k_pg C) (k_vq C) (k_rq C) (k_L C) (va_up (k_F C) (q) (.inr (1, [.ref (v), .ref (hs), .int (bI (cu)), .int (nI (kp)), .int (nI (gv + 1)), .int (nI (en)), .int (bI (ed))])))) (q) (v) (hs) (cu) (kp) (gv + 1) (en) (ed) (n9) (vh) (se) (c9) (g9) (st9) (r9) (sn9) (sf))) (k_home (egM (mkC (k_ra C) (k_rb C) (k_vc C) (k_rc C) (k_pc C) (k_nw C) (k_n C) (k_fn C) (k_sn C) (k_kc C) (k_grp C) (k_key C) (k_srt C) (k_wt C) (k_home C) (k_drp C) (k_met C) (k_kin C) (k_alv C) (k_srs C) (k_row C) (k_sp C) (k_kis C) (k_pg C) (k_vq C) (k_rq C) (k_L C) (va_up (k_F C) (q) (.inr (1, [.ref (v), .ref (hs), .int (bI (cu)), .int (nI (kp)), .int (nI (gv + 1)), .int (nI (en)), .int (bI (ed))])))) (q) (v) (hs) (cu) (kp) (gv + 1) (en) (ed) (n9) (vh) (se) (c9) (g9) (st9) (r9) (sn9) (sf))) (k_drp (egM (mkC (k_ra C) (k_rb C) (k_vc C) (k_rc C) (k_pc C) (k_nw C) (k_n C) (k_fn C) (k_sn C) (k_kc C) (k_grp C) (k_key C) (k_srt C) (k_wt C) (k_home C) (k_drp C) (k_met C) (k_kin C) (k_alv C) (k_srs C) (k_row C) (k_sp C) (k_kis C) (k_pg C) (k_vq C) (k_rq C) (k_L C) (va_up (k_F C) (q) (.inr (1, [.ref (v), .ref (hs), .int (bI (cu)), .int (nI (kp)), .int (nI (gv + 1)), .int (nI (en)), .int (bI (ed))])))) (q) (v) (hs) (cu) (kp) (gv + 1) (en) (ed) (n9) (vh) (se) (c9) (g9) (st9) (r9) (sn9) (sf))) (k_met (egM (mkC (k_ra C) (k_rb C) (k_vc C) (k_rc C) (k_pc C) (k_nw C) (k_n C) (k_fn C) (k_sn C) (k_kc C) (k_grp C) (k_key C) (k_srt C) (k_wt C) (k_home C) (k_drp C) (k_met C) (k_kin C) (k_alv C) (k_srs C) (k_row C) (k_sp C) (k_kis C) (k_pg C) (k_vq C) (k_rq C) (k_L C) (va_up (k_F C) (q) (.inr (1, [.ref (v), .ref (hs), .int (bI (cu)), .int (nI (kp)), .int (nI (gv + 1)), .int (nI (en)), .int (bI (ed))])))) (q) (v) (hs) (cu) (kp) (gv + 1) (en) (ed) (n9) (vh) (se) (c9) (g9) (st9) (r9) (sn9) (sf))) (k_kin (egM (mkC (k_ra C) (k_rb C) (k_vc C) (k_rc C) (k_pc C) (k_nw C) (k_n C) (k_fn C) (k_sn C) (k_kc C) (k_grp C) (k_key C) (k_srt C) (k_wt C) (k_home C) (k_drp C) (k_met C) (k_kin C) (k_alv C) (k_srs C) (k_row C) (k_sp C) (k_kis C) (k_pg C) (k_vq C) (k_rq C) (k_L C) (va_up (k_F C) (q) (.inr (1, [.ref (v), .ref (hs), .int (bI (cu)), .int (nI (kp)), .int (nI (gv + 1)), .int (nI (en)), .int (bI (ed))])))) (q) (v) (hs) (cu) (kp) (gv + 1) (en) (ed) (n9) (vh) (se) (c9) (g9) (st9) (r9) (sn9) (sf))) (k_alv (egM (mkC (k_ra C) (k_rb C) (k_vc C) (k_rc C) (k_pc C) (k_nw C) (k_n C) (k_fn C) (k_sn C) (k_kc C) (k_grp C) (k_key C) (k_srt C) (k_wt C) (k_home C) (k_drp C) (k_met C) (k_kin C) (k_alv C) (k_srs C) (k_row C) (k_sp C) (k_kis C) (k_pg C) (k_vq C) (k_rq C) (k_L C) (va_up (k_F C) (q) (.inr (1, [.ref (v), .ref (hs), .int (bI (cu)), .int (nI (kp)), .int (nI (gv + 1)), .int (nI (en)), .int (bI (ed))])))) (q) (v) (hs) (cu) (kp) (gv + 1) (en) (ed) (n9) (vh) (se) (c9) (g9) (st9) (r9) (sn9) (sf))) (k_srs (egM (mkC (k_ra C) (k_rb C) (k_vc C) (k_rc C) (k_pc C) (k_nw C) (k_n C) (k_fn C) (k_sn C) (k_kc C) (k_grp C) (k_key C) (k_srt C) (k_wt C) (k_home C) (k_drp C) (k_met C) (k_kin C) (k_alv C) (k_srs C) (k_row C) (k_sp C) (k_kis C) (k_pg C) (k_vq C) (k_rq C) (k_L C) (va_up (k_F C) (q) (.inr (1, [.ref (v), .ref (hs), .int (bI (cu)), .int (nI (kp)), .int (nI (gv + 1)), .int (nI (en)), .int (bI (ed))])))) (q) (v) (hs) (cu) (kp) (gv + 1) (en) (ed) (n9) (vh) (se) (c9) (g9) (st9) (r9) (sn9) (sf))) (k_row (egM (mkC (k_ra C) (k_rb C) (k_vc C) (k_rc C) (k_pc C) (k_nw C) (k_n C) (k_fn C) (k_sn C) (k_kc C) (k_grp C) (k_key C) (k_srt C) (k_wt C) (k_home C) (k_drp C) (k_met C) (k_kin C) (k_alv C) (k_srs C) (k_row C) (k_sp C) (k_kis C) (k_pg C) (k_vq C) (k_rq C) (k_L C) (va_up (k_F C) (q) (.inr (1, [.ref (v), .ref (hs), .int (bI (cu)), .int (nI (kp)), .int (nI (gv + 1)), .int (nI (en)), .int (bI (ed))])))) (q) (v) (hs) (cu) (kp) (gv + 1) (en) (ed) (n9) (vh) (se) (c9) (g9) (st9) (r9) (sn9) (sf))) (k_sp (egM (mkC (k_ra C) (k_rb C) (k_vc C) (k_rc C) (k_pc C) (k_nw C) (k_n C) (k_fn C) (k_sn C) (k_kc C) (k_grp C) (k_key C) (k_srt C) (k_wt C) (k_home C) (k_drp C) (k_met C) (k_kin C) (k_alv C) (k_srs C) (k_row C) (k_sp C) (k_kis C) (k_pg C) (k_vq C) (k_rq C) (k_L C) (va_up (k_F C) (q) (.inr (1, [.ref (v), .ref (hs), .int (bI (cu)), .int (nI (kp)), .int (nI (gv + 1)), .int (nI (en)), .int (bI (ed))])))) (q) (v) (hs) (cu) (kp) (gv + 1) (en) (ed) (n9) (vh) (se) (c9) (g9) (st9) (r9) (sn9) (sf))) (k_kis (egM (mkC (k_ra C) (k_rb C) (k_vc C) (k_rc C) (k_pc C) (k_nw C) (k_n C) (k_fn C) (k_sn C) (k_kc C) (k_grp C) (k_key C) (k_srt C) (k_wt C) (k_home C) (k_drp C) (k_met C) (k_kin C) (k_alv C) (k_srs C) (k_row C) (k_sp C) (k_kis C) (k_pg C) (k_vq C) (k_rq C) (k_L C) (va_up (k_F C) (q) (.inr (1, [.ref (v), .ref (hs), .int (bI (cu)), .int (nI (kp)), .int (nI (gv + 1)), .int (nI (en)), .int (bI (ed))])))) (q) (v) (hs) (cu) (kp) (gv + 1) (en) (ed) (n9) (vh) (se) (c9) (g9) (st9) (r9) (sn9) (sf))) (k_pg (egM (mkC (k_ra C) (k_rb C) (k_vc C) (k_rc C) (k_pc C) (k_nw C) (k_n C) (k_fn C) (k_sn C) (k_kc C) (k_grp C) (k_key C) (k_srt C) (k_wt C) (k_home C) (k_drp C) (k_met C) (k_kin C) (k_alv C) (k_srs C) (k_row C) (k_sp C) (k_kis C) (k_pg C) (k_vq C) (k_rq C) (k_L C) (va_up (k_F C) (q) (.inr (1, [.ref (v), .ref (hs), .int (bI (cu)), .int (nI (kp)), .int (nI (gv + 1)), .int (nI (en)), .int (bI (ed))])))) (q) (v) (hs) (cu) (kp) (gv + 1) (en) (ed) (n9) (vh) (se) (c9) (g9) (st9) (r9) (sn9) (sf))) (k_vq (egM (mkC (k_ra C) (k_rb C) (k_vc C) (k_rc C) (k_pc C) (k_nw C) (k_n C) (k_fn C) (k_sn C) (k_kc C) (k_grp C) (k_key C) (k_srt C) (k_wt C) (k_home C) (k_drp C) (k_met C) (k_kin C) (k_alv C) (k_srs C) (k_row C) (k_sp C) (k_kis C) (k_pg C) (k_vq C) (k_rq C) (k_L C) (va_up (k_F C) (q) (.inr (1, [.ref (v), .ref (hs), .int (bI (cu)), .int (nI (kp)), .int (nI (gv + 1)), .int (nI (en)), .int (bI (ed))])))) (q) (v) (hs) (cu) (kp) (gv + 1) (en) (ed) (n9) (vh) (se) (c9) (g9) (st9) (r9) (sn9) (sf))) (k_rq (egM (mkC (k_ra C) (k_rb C) (k_vc C) (k_rc C) (k_pc C) (k_nw C) (k_n C) (k_fn C) (k_sn C) (k_kc C) (k_grp C) (k_key C) (k_srt C) (k_wt C) (k_home C) (k_drp C) (k_met C) (k_kin C) (k_alv C) (k_srs C) (k_row C) (k_sp C) (k_kis C) (k_pg C) (k_vq C) (k_rq C) (k_L C) (va_up (k_F C) (q) (.inr (1, [.ref (v), .ref (hs), .int (bI (cu)), .int (nI (kp)), .int (nI (gv + 1)), .int (nI (en)), .int (bI (ed))])))) (q) (v) (hs) (cu) (kp) (gv + 1) (en) (ed) (n9) (vh) (se) (c9) (g9) (st9) (r9) (sn9) (sf))) (k_L (egM (mkC (k_ra C) (k_rb C) (k_vc C) (k_rc C) (k_pc C) (k_nw C) (k_n C) (k_fn C) (k_sn C) (k_kc C) (k_grp C) (k_key C) (k_srt C) (k_wt C) (k_home C) (k_drp C) (k_met C) (k_kin C) (k_alv C) (k_srs C) (k_row C) (k_sp C) (k_kis C) (k_pg C) (k_vq C) (k_rq C) (k_L C) (va_up (k_F C) (q) (.inr (1, [.ref (v), .ref (hs), .int (bI (cu)), .int (nI (kp)), .int (nI (gv + 1)), .int (nI (en)), .int (bI (ed))])))) (q) (v) (hs) (cu) (kp) (gv + 1) (en) (ed) (n9) (vh) (se) (c9) (g9) (st9) (r9) (sn9) (sf))) (k_F (egM (mkC (k_ra C) (k_rb C) (k_vc C) (k_rc C) (k_pc C) (k_nw C) (k_n C) (k_fn C) (k_sn C) (k_kc C) (k_grp C) (k_key C) (k_srt C) (k_wt C) (k_home C) (k_drp C) (k_met C) (k_kin C) (k_alv C) (k_srs C) (k_row C) (k_sp C) (k_kis C) (k_pg C) (k_vq C) (k_rq C) (k_L C) (va_up (k_F C) (q) (.inr (1, [.ref (v), .ref (hs), .int (bI (cu)), .int (nI (kp)), .int (nI (gv + 1)), .int (nI (en)), .int (bI (ed))])))) (q) (v) (hs) (cu) (kp) (gv + 1) (en) (ed) (n9) (vh) (se) (c9) (g9) (st9) (r9) (sn9) (sf)))) H := hP
        have hD : va_D A (kX cI cJ cZ cV cR a (k_ra (egM (mkC (k_ra C) (k_rb C) (k_vc C) (k_rc C) (k_pc C) (k_nw C) (k_n C) (k_fn C) (k_sn C) (k_kc C) (k_grp C) (k_key C) (k_srt C) (k_wt C) (k_home C) (k_drp C) (k_met C) (k_kin C) (k_alv C) (k_srs C) (k_row C) (k_sp C) (k_kis C) (k_pg C) (k_vq C) (k_rq C) (k_L C) (va_up (k_F C) (q) (.inr (1, [.ref (v), .ref (hs), .int (bI (cu)), .int (nI (kp)), .int (nI (gv + 1)), .int (nI (en)), .int (bI (ed))])))) (q) (v) (hs) (cu) (kp) (gv + 1) (en) (ed) (n9) (vh) (se) (c9) (g9) (st9) (r9) (sn9) (sf))) (k_rb (egM (mkC (k_ra C) (k_rb C) (k_vc C) (k_rc C) (k_pc C) (k_nw C) (k_n C) (k_fn C) (k_sn C) (k_kc C) (k_grp C) (k_key C) (k_srt C) (k_wt C) (k_home C) (k_drp C) (k_met C) (k_kin C) (k_alv C) (k_srs C) (k_row C) (k_sp C) (k_kis C) (k_pg C) (k_vq C) (k_rq C) (k_L C) (va_up (k_F C) (q) (.inr (1, [.ref (v), .ref (hs), .int (bI (cu)), .int (nI (kp)), .int (nI (gv + 1)), .int (nI (en)), .int (bI (ed))])))) (q) (v) (hs) (cu) (kp) (gv + 1) (en) (ed) (n9) (vh) (se) (c9) (g9) (st9) (r9) (sn9) (sf))) (k_vc (egM (mkC (k_ra C) (k_rb C) (k_vc C) (k_rc C) (k_pc C) (k_nw C) (k_n C) (k_fn C) (k_sn C) (k_kc C) (k_grp C) (k_key C) (k_srt C) (k_wt C) (k_home C) (k_drp C) (k_met C) (k_kin C) (k_alv C) (k_srs C) (k_row C) (k_sp C) (k_kis C) (k_pg C) (k_vq C) (k_rq C) (k_L C) (va_up (k_F C) (q) (.inr (1, [.ref (v), .ref (hs), .int (bI (cu)), .int (nI (kp)), .int (nI (gv + 1)), .int (nI (en)), .int (bI (ed))])))) (q) (v) (hs) (cu) (kp) (gv + 1) (en) (ed) (n9) (vh) (se) (c9) (g9) (st9) (r9) (sn9) (sf))) (k_rc (egM (mkC (k_ra C) (k_rb C) (k_vc C) (k_rc C) (k_pc C) (k_nw C) (k_n C) (k_fn C) (k_sn C) (k_kc C) (k_grp C) (k_key C) (k_srt C) (k_wt C) (k_home C) (k_drp C) (k_met C) (k_kin C) (k_alv C) (k_srs C) (k_row C) (k_sp C) (k_kis C) (k_pg C) (k_vq C) (k_rq C) (k_L C) (va_up (k_F C) (q) (.inr (1, [.ref (v), .ref (hs), .int (bI (cu)), .int (nI (kp)), .int (nI (gv + 1)), .int (nI (en)), .int (bI (ed))])))) (q) (v) (hs) (cu) (kp) (gv + 1) (en) (ed) (n9) (vh) (se) (c9) (g9) (st9) (r9) (sn9) (sf))) (k_pc (egM (mkC (k_ra C) (k_rb C) (k_vc C) (k_rc C) (k_pc C) (k_nw C) (k_n C) (k_fn C) (k_sn C) (k_kc C) (k_grp C) (k_key C) (k_srt C) (k_wt C) (k_home C) (k_drp C) (k_met C) (k_kin C) (k_alv C) (k_srs C) (k_row C) (k_sp C) (k_kis C) (k_pg C) (k_vq C) (k_rq C) (k_L C) (va_up (k_F C) (q) (.inr (1, [.ref (v), .ref (hs), .int (bI (cu)), .int (nI (kp)), .int (nI (gv + 1)), .int (nI (en)), .int (bI (ed))])))) (q) (v) (hs) (cu) (kp) (gv + 1) (en) (ed) (n9) (vh) (se) (c9) (g9) (st9) (r9) (sn9) (sf))) (k_nw (egM (mkC (k_ra C) (k_rb C) (k_vc C) (k_rc C) (k_pc C) (k_nw C) (k_n C) (k_fn C) (k_sn C) (k_kc C) (k_grp C) (k_key C) (k_srt C) (k_wt C) (k_home C) (k_drp C) (k_met C) (k_kin C) (k_alv C) (k_srs C) (k_row C) (k_sp C) (k_kis C) (k_pg C) (k_vq C) (k_rq C) (k_L C) (va_up (k_F C) (q) (.inr (1, [.ref (v), .ref (hs), .int (bI (cu)), .int (nI (kp)), .int (nI (gv + 1)), .int (nI (en)), .int (bI (ed))])))) (q) (v) (hs) (cu) (kp) (gv + 1) (en) (ed) (n9) (vh) (se) (c9) (g9) (st9) (r9) (sn9) (sf))) (k_n (egM (mkC (k_ra C) (k_rb C) (k_vc C) (k_rc C) (k_pc C) (k_nw C) (k_n C) (k_fn C) (k_sn C) (k_kc C) (k_grp C) (k_key C) (k_srt C) (k_wt C) (k_home C) (k_drp C) (k_met C) (k_kin C) (k_alv C) (k_srs C) (k_row C) (k_sp C) (k_kis C) (k_pg C) (k_vq C) (k_rq C) (k_L C) (va_up (k_F C) (q) (.inr (1, [.ref (v), .ref (hs), .int (bI (cu)), .int (nI (kp)), .int (nI (gv + 1)), .int (nI (en)), .int (bI (ed))])))) (q) (v) (hs) (cu) (kp) (gv + 1) (en) (ed) (n9) (vh) (se) (c9) (g9) (st9) (r9) (sn9) (sf))) (k_fn (egM (mkC (k_ra C) (k_rb C) (k_vc C) (k_rc C) (k_pc C) (k_nw C) (k_n C) (k_fn C) (k_sn C) (k_kc C) (k_grp C) (k_key C) (k_srt C) (k_wt C) (k_home C) (k_drp C) (k_met C) (k_kin C) (k_alv C) (k_srs C) (k_row C) (k_sp C) (k_kis C) (k_pg C) (k_vq C) (k_rq C) (k_L C) (va_up (k_F C) (q) (.inr (1, [.ref (v), .ref (hs), .int (bI (cu)), .int (nI (kp)), .int (nI (gv + 1)), .int (nI (en)), .int (bI (ed))])))) (q) (v) (hs) (cu) (kp) (gv + 1) (en) (ed) (n9) (vh) (se) (c9) (g9) (st9) (r9) (sn9) (sf))) (k_sn (egM (mkC (k_ra C) (k_rb C) (k_vc C) (k_rc C) (k_pc C) (k_nw C) (k_n C) (k_fn C) (k_sn C) (k_kc C) (k_grp C) (k_key C) (k_srt C) (k_wt C) (k_home C) (k_drp C) (k_met C) (k_kin C) (k_alv C) (k_srs C) (k_row C) (k_sp C) (k_kis C) (k_pg C) (k_vq C) (k_rq C) (k_L C) (va_up (k_F C) (q) (.inr (1, [.ref (v), .ref (hs), .int (bI (cu)), .int (nI (kp)), .int (nI (gv + 1)), .int (nI (en)), .int (bI (ed))])))) (q) (v) (hs) (cu) (kp) (gv + 1) (en) (ed) (n9) (vh) (se) (c9) (g9) (st9) (r9) (sn9) (sf))) (k_kc (egM (mkC (k_ra C) (k_rb C) (k_vc C) (k_rc C) (k_pc C) (k_nw C) (k_n C) (k_fn C) (k_sn C) (k_kc C) (k_grp C) (k_key C) (k_srt C) (k_wt C) (k_home C) (k_drp C) (k_met C) (k_kin C) (k_alv C) (k_srs C) (k_row C) (k_sp C) (k_kis C) (k_pg C) (k_vq C) (k_rq C) (k_L C) (va_up (k_F C) (q) (.inr (1, [.ref (v), .ref (hs), .int (bI (cu)), .int (nI (kp)), .int (nI (gv + 1)), .int (nI (en)), .int (bI (ed))])))) (q) (v) (hs) (cu) (kp) (gv + 1) (en) (ed) (n9) (vh) (se) (c9) (g9) (st9) (r9) (sn9) (sf))) (k_grp (egM (mkC (k_ra C) (k_rb C) (k_vc C) (k_rc C) (k_pc C) (k_nw C) (k_n C) (k_fn C) (k_sn C) (k_kc C) (k_grp C) (k_key C) (k_srt C) (k_wt C) (k_home C) (k_drp C) (k_met C) (k_kin C) (k_alv C) (k_srs C) (k_row C) (k_sp C) (k_kis C) (k_pg C) (k_vq C) (k_rq C) (k_L C) (va_up (k_F C) (q) (.inr (1, [.ref (v), .ref (hs), .int (bI (cu)), .int (nI (kp)), .int (nI (gv + 1)), .int (nI (en)), .int (bI (ed))])))) (q) (v) (hs) (cu) (kp) (gv + 1) (en) (ed) (n9) (vh) (se) (c9) (g9) (st9) (r9) (sn9) (sf))) (k_key (egM (mkC (k_ra C) (k_rb C) (k_vc C) (k_rc C) (k_pc C) (k_nw C) (k_n C) (k_fn C) (k_sn C) (k_kc C) (k_grp C) (k_key C) (k_srt C) (k_wt C) (k_home C) (k_drp C) (k_met C) (k_kin C) (k_alv C) (k_srs C) (k_row C) (k_sp C) (k_kis C) (k_pg C) (k_vq C) (k_rq C) (k_L C) (va_up (k_F C) (q) (.inr (1, [.ref (v), .ref (hs), .int (bI (cu)), .int (nI (kp)), .int (nI (gv + 1)), .int (nI (en)), .int (bI (ed))])))) (q) (v) (hs) (cu) (kp) (gv + 1) (en) (ed) (n9) (vh) (se) (c9) (g9) (st9) (r9) (sn9) (sf))) (k_srt (egM (mkC (k_ra C) (k_rb C) (k_vc C) (k_rc C) (k_pc C) (k_nw C) (k_n C) (k_fn C) (k_sn C) (k_kc C) (k_grp C) (k_key C) (k_srt C) (k_wt C) (k_home C) (k_drp C) (k_met C) (k_kin C) (k_alv C) (k_srs C) (k_row C) (k_sp C) (k_kis C) (k_pg C) (k_vq C) (k_rq C) (k_L C) (va_up (k_F C) (q) (.inr (1, [.ref (v), .ref (hs), .int (bI (cu)), .int (nI (kp)), .int (nI (gv + 1)), .int (nI (en)), .int (bI (ed))])))) (q) (v) (hs) (cu) (kp) (gv + 1) (en) (ed) (n9) (vh) (se) (c9) (g9) (st9) (r9) (sn9) (sf))) (k_wt (egM (mkC (k_ra C) (k_rb C) (k_vc C) (k_rc C) (k_pc C) (k_nw C) (k_n C) (k_fn C) (k_sn C) (k_kc C) (k_grp C) (k_key C) (k_srt C) (k_wt C) (k_home C) (k_drp C) (k_met C) (k_kin C) (k_alv C) (k_srs C) (k_row C) (k_sp C) (k_kis C) (k_pg C) (k_vq C) (k_rq C) (k_L C) (va_up (k_F C) (q) (.inr (1, [.ref (v), .ref (hs), .int (bI (cu)), .int (nI (kp)), .int (nI (gv + 1)), .int (nI (en)), .int (bI (ed))])))) (q) (v) (hs) (cu) (kp) (gv + 1) (en) (ed) (n9) (vh) (se) (c9) (g9) (st9) (r9) (sn9) (sf))) (k_home (egM (mkC (k_ra C) (k_rb C) (k_vc C) (k_rc C) (k_pc C) (k_nw C) (k_n C) (k_fn C) (k_sn C) (k_kc C) (k_grp C) (k_key C) (k_srt C) (k_wt C) (k_home C) (k_drp C) (k_met C) (k_kin C) (k_alv C) (k_srs C) (k_row C) (k_sp C) (k_kis C) (k_pg C) (k_vq C) (k_rq C) (k_L C) (va_up (k_F C) (q) (.inr (1, [.ref (v), .ref (hs), .int (bI (cu)), .int (nI (kp)), .int (nI (gv + 1)), .int (nI (en)), .int (bI (ed))])))) (q) (v) (hs) (cu) (kp) (gv + 1) (en) (ed) (n9) (vh) (se) (c9) (g9) (st9) (r9) (sn9) (sf))) (k_drp (egM (mkC (k_ra C) (k_rb C) (k_vc C) (k_rc C) (k_pc C) (k_nw C) (k_n C) (k_fn C) (k_sn C) (k_kc C) (k_grp C) (k_key C) (k_srt C) (k_wt C) (k_home C) (k_drp C) (k_met C) (k_kin C) (k_alv C) (k_srs C) (k_row C) (k_sp C) (k_kis C) (k_pg C) (k_vq C) (k_rq C) (k_L C) (va_up (k_F C) (q) (.inr (1, [.ref (v), .ref (hs), .int (bI (cu)), .int (nI (kp)), .int (nI (gv + 1)), .int (nI (en)), .int (bI (ed))])))) (q) (v) (hs) (cu) (kp) (gv + 1) (en) (ed) (n9) (vh) (se) (c9) (g9) (st9) (r9) (sn9) (sf))) (k_met (egM (mkC (k_ra C) (k_rb C) (k_vc C) (k_rc C) (k_pc C) (k_nw C) (k_n C) (k_fn C) (k_sn C) (k_kc C) (k_grp C) (k_key C) (k_srt C) (k_wt C) (k_home C) (k_drp C) (k_met C) (k_kin C) (k_alv C) (k_srs C) (k_row C) (k_sp C) (k_kis C) (k_pg C) (k_vq C) (k_rq C) (k_L C) (va_up (k_F C) (q) (.inr (1, [.ref (v), .ref (hs), .int (bI (cu)), .int (nI (kp)), .int (nI (gv + 1)), .int (nI (en)), .int (bI (ed))])))) (q) (v) (hs) (cu) (kp) (gv + 1) (en) (ed) (n9) (vh) (se) (c9) (g9) (st9) (r9) (sn9) (sf))) (k_kin (egM (mkC (k_ra C) (k_rb C) (k_vc C) (k_rc C) (k_pc C) (k_nw C) (k_n C) (k_fn C) (k_sn C) (k_kc C) (k_grp C) (k_key C) (k_srt C) (k_wt C) (k_home C) (k_drp C) (k_met C) (k_kin C) (k_alv C) (k_srs C) (k_row C) (k_sp C) (k_kis C) (k_pg C) (k_vq C) (k_rq C) (k_L C) (va_up (k_F C) (q) (.inr (1, [.ref (v), .ref (hs), .int (bI (cu)), .int (nI (kp)), .int (nI (gv + 1)), .int (nI (en)), .int (bI (ed))])))) (q) (v) (hs) (cu) (kp) (gv + 1) (en) (ed) (n9) (vh) (se) (c9) (g9) (st9) (r9) (sn9) (sf))) (k_alv (egM (mkC (k_ra C) (k_rb C) (k_vc C) (k_rc C) (k_pc C) (k_nw C) (k_n C) (k_fn C) (k_sn C) (k_kc C) (k_grp C) (k_key C) (k_srt C) (k_wt C) (k_home C) (k_drp C) (k_met C) (k_kin C) (k_alv C) (k_srs C) (k_row C) (k_sp C) (k_kis C) (k_pg C) (k_vq C) (k_rq C) (k_L C) (va_up (k_F C) (q) (.inr (1, [.ref (v), .ref (hs), .int (bI (cu)), .int (nI (kp)), .int (nI (gv + 1)), .int (nI (en)), .int (bI (ed))])))) (q) (v) (hs) (cu) (kp) (gv + 1) (en) (ed) (n9) (vh) (se) (c9) (g9) (st9) (r9) (sn9) (sf))) (k_srs (egM (mkC (k_ra C) (k_rb C) (k_vc C) (k_rc C) (k_pc C) (k_nw C) (k_n C) (k_fn C) (k_sn C) (k_kc C) (k_grp C) (k_key C) (k_srt C) (k_wt C) (k_home C) (k_drp C) (k_met C) (k_kin C) (k_alv C) (k_srs C) (k_row C) (k_sp C) (k_kis C) (k_pg C) (k_vq C) (k_rq C) (k_L C) (va_up (k_F C) (q) (.inr (1, [.ref (v), .ref (hs), .int (bI (cu)), .int (nI (kp)), .int (nI (gv + 1)), .int (nI (en)), .int (bI (ed))])))) (q) (v) (hs) (cu) (kp) (gv + 1) (en) (ed) (n9) (vh) (se) (c9) (g9) (st9) (r9) (sn9) (sf))) (k_row (egM (mkC (k_ra C) (k_rb C) (k_vc C) (k_rc C) (k_pc C) (k_nw C) (k_n C) (k_fn C) (k_sn C) (k_kc C) (k_grp C) (k_key C) (k_srt C) (k_wt C) (k_home C) (k_drp C) (k_met C) (k_kin C) (k_alv C) (k_srs C) (k_row C) (k_sp C) (k_kis C) (k_pg C) (k_vq C) (k_rq C) (k_L C) (va_up (k_F C) (q) (.inr (1, [.ref (v), .ref (hs), .int (bI (cu)), .int (nI (kp)), .int (nI (gv + 1)), .int (nI (en)), .int (bI (ed))])))) (q) (v) (hs) (cu) (kp) (gv + 1) (en) (ed) (n9) (vh) (se) (c9) (g9) (st9) (r9) (sn9) (sf))) (k_sp (egM (mkC (k_ra C) (k_rb C) (k_vc C) (k_rc C) (k_pc C) (k_nw C) (k_n C) (k_fn C) (k_sn C) (k_kc C) (k_grp C) (k_key C) (k_srt C) (k_wt C) (k_home C) (k_drp C) (k_met C) (k_kin C) (k_alv C) (k_srs C) (k_row C) (k_sp C) (k_kis C) (k_pg C) (k_vq C) (k_rq C) (k_L C) (va_up (k_F C) (q) (.inr (1, [.ref (v), .ref (hs), .int (bI (cu)), .int (nI (kp)), .int (nI (gv + 1)), .int (nI (en)), .int (bI (ed))])))) (q) (v) (hs) (cu) (kp) (gv + 1) (en) (ed) (n9) (vh) (se) (c9) (g9) (st9) (r9) (sn9) (sf))) (k_kis (egM (mkC (k_ra C) (k_rb C) (k_vc C) (k_rc C) (k_pc C) (k_nw C) (k_n C) (k_fn C) (k_sn C) (k_kc C) (k_grp C) (k_key C) (k_srt C) (k_wt C) (k_home C) (k_drp C) (k_met C) (k_kin C) (k_alv C) (k_srs C) (k_row C) (k_sp C) (k_kis C) (k_pg C) (k_vq C) (k_rq C) (k_L C) (va_up (k_F C) (q) (.inr (1, [.ref (v), .ref (hs), .int (bI (cu)), .int (nI (kp)), .int (nI (gv + 1)), .int (nI (en)), .int (bI (ed))])))) (q) (v) (hs) (cu) (kp) (gv + 1) (en) (ed) (n9) (vh) (se) (c9) (g9) (st9) (r9) (sn9) (sf))) (k_pg (egM (mkC (k_ra C) (k_rb C) (k_vc C) (k_rc C) (k_pc C) (k_nw C) (k_n C) (k_fn C) (k_sn C) (k_kc C) (k_grp C) (k_key C) (k_srt C) (k_wt C) (k_home C) (k_drp C) (k_met C) (k_kin C) (k_alv C) (k_srs C) (k_row C) (k_sp C) (k_kis C) (k_pg C) (k_vq C) (k_rq C) (k_L C) (va_up (k_F C) (q) (.inr (1, [.ref (v), .ref (hs), .int (bI (cu)), .int (nI (kp)), .int (nI (gv + 1)), .int (nI (en)), .int (bI (ed))])))) (q) (v) (hs) (cu) (kp) (gv + 1) (en) (ed) (n9) (vh) (se) (c9) (g9) (st9) (r9) (sn9) (sf))) (k_vq (egM (mkC (k_ra C) (k_rb C) (k_vc C) (k_rc C) (k_pc C) (k_nw C) (k_n C) (k_fn C) (k_sn C) (k_kc C) (k_grp C) (k_key C) (k_srt C) (k_wt C) (k_home C) (k_drp C) (k_met C) (k_kin C) (k_alv C) (k_srs C) (k_row C) (k_sp C) (k_kis C) (k_pg C) (k_vq C) (k_rq C) (k_L C) (va_up (k_F C) (q) (.inr (1, [.ref (v), .ref (hs), .int (bI (cu)), .int (nI (kp)), .int (nI (gv + 1)), .int (nI (en)), .int (bI (ed))])))) (q) (v) (hs) (cu) (kp) (gv + 1) (en) (ed) (n9) (vh) (se) (c9) (g9) (st9) (r9) (sn9) (sf))) (k_rq (egM (mkC (k_ra C) (k_rb C) (k_vc C) (k_rc C) (k_pc C) (k_nw C) (k_n C) (k_fn C) (k_sn C) (k_kc C) (k_grp C) (k_key C) (k_srt C) (k_wt C) (k_home C) (k_drp C) (k_met C) (k_kin C) (k_alv C) (k_srs C) (k_row C) (k_sp C) (k_kis C) (k_pg C) (k_vq C) (k_rq C) (k_L C) (va_up (k_F C) (q) (.inr (1, [.ref (v), .ref (hs), .int (bI (cu)), .int (nI (kp)), .int (nI (gv + 1)), .int (nI (en)), .int (bI (ed))])))) (q) (v) (hs) (cu) (kp) (gv + 1) (en) (ed) (n9) (vh) (se) (c9) (g9) (st9) (r9) (sn9) (sf))) (k_L (egM (mkC (k_ra C) (k_rb C) (k_vc C) (k_rc C) (k_pc C) (k_nw C) (k_n C) (k_fn C) (k_sn C) (k_kc C) (k_grp C) (k_key C) (k_srt C) (k_wt C) (k_home C) (k_drp C) (k_met C) (k_kin C) (k_alv C) (k_srs C) (k_row C) (k_sp C) (k_kis C) (k_pg C) (k_vq C) (k_rq C) (k_L C) (va_up (k_F C) (q) (.inr (1, [.ref (v), .ref (hs), .int (bI (cu)), .int (nI (kp)), .int (nI (gv + 1)), .int (nI (en)), .int (bI (ed))])))) (q) (v) (hs) (cu) (kp) (gv + 1) (en) (ed) (n9) (vh) (se) (c9) (g9) (st9) (r9) (sn9) (sf))) (k_F (egM (mkC (k_ra C) (k_rb C) (k_vc C) (k_rc C) (k_pc C) (k_nw C) (k_n C) (k_fn C) (k_sn C) (k_kc C) (k_grp C) (k_key C) (k_srt C) (k_wt C) (k_home C) (k_drp C) (k_met C) (k_kin C) (k_alv C) (k_srs C) (k_row C) (k_sp C) (k_kis C) (k_pg C) (k_vq C) (k_rq C) (k_L C) (va_up (k_F C) (q) (.inr (1, [.ref (v), .ref (hs), .int (bI (cu)), .int (nI (kp)), .int (nI (gv + 1)), .int (nI (en)), .int (bI (ed))])))) (q) (v) (hs) (cu) (kp) (gv + 1) (en) (ed) (n9) (vh) (se) (c9) (g9) (st9) (r9) (sn9) (sf)))) := hD
        refine lv_iload_n hx hb dX5_next_74 rfl (lv_at hl 0 rfl) ?_
        have hPm : va_P D vwCl (kW cI cJ cZ cV cR a (egM (mkC (k_ra C) (k_rb C) (k_vc C) (k_rc C) (k_pc C) (k_nw C) (k_n C) (k_fn C) (k_sn C) (k_kc C) (k_grp C) (k_key C) (k_srt C) (k_wt C) (k_home C) (k_drp C) (k_met C) (k_kin C) (k_alv C) (k_srs C) (k_row C) (k_sp C) (k_kis C) (k_pg C) (k_vq C) (k_rq C) (k_L C) (va_up (k_F C) (q) (.inr (1, [.ref (v), .ref (hs), .int (bI (cu)), .int (nI (kp)), .int (nI (gv + 1)), .int (nI (en)), .int (bI (ed))])))) (q) (v) (hs) (cu) (kp) (gv + 1) (en) (ed) (n9) (vh) (se) (c9) (g9) (st9) (r9) (sn9) (sf))) H := by exact hP
        have hDm : va_D A (kW cI cJ cZ cV cR a (egM (mkC (k_ra C) (k_rb C) (k_vc C) (k_rc C) (k_pc C) (k_nw C) (k_n C) (k_fn C) (k_sn C) (k_kc C) (k_grp C) (k_key C) (k_srt C) (k_wt C) (k_home C) (k_drp C) (k_met C) (k_kin C) (k_alv C) (k_srs C) (k_row C) (k_sp C) (k_kis C) (k_pg C) (k_vq C) (k_rq C) (k_L C) (va_up (k_F C) (q) (.inr (1, [.ref (v), .ref (hs), .int (bI (cu)), .int (nI (kp)), .int (nI (gv + 1)), .int (nI (en)), .int (bI (ed))])))) (q) (v) (hs) (cu) (kp) (gv + 1) (en) (ed) (n9) (vh) (se) (c9) (g9) (st9) (r9) (sn9) (sf))) := by exact hD
        exact W.iret (v := nI (f9 gv)) hx hb hr (fun t ht hW => ⟨⟨_, (egM (mkC (k_ra C) (k_rb C) (k_vc C) (k_rc C) (k_pc C) (k_nw C) (k_n C) (k_fn C) (k_sn C) (k_kc C) (k_grp C) (k_key C) (k_srt C) (k_wt C) (k_home C) (k_drp C) (k_met C) (k_kin C) (k_alv C) (k_srs C) (k_row C) (k_sp C) (k_kis C) (k_pg C) (k_vq C) (k_rq C) (k_L C) (va_up (k_F C) (q) (.inr (1, [.ref (v), .ref (hs), .int (bI (cu)), .int (nI (kp)), .int (nI (gv + 1)), .int (nI (en)), .int (bI (ed))])))) (q) (v) (hs) (cu) (kp) (gv + 1) (en) (ed) (n9) (vh) (se) (c9) (g9) (st9) (r9) (sn9) (sf)), rfl, ⟨rfl, rfl⟩, gb_mk ht hW hPm hK hDm⟩, hS.F ht⟩) hS.2.2 dX5_next_75
      · exfalso; omega
  · exact absurd (hcu.symm.trans c10_2) (by decide)
def rmx_X5_next_v : Room := { frames := 7, cells := 1, slots := 6, locals := 104 }
set_option maxHeartbeats 4000000 in
set_option maxRecDepth 100000 in
/-- no such reader -/
theorem x_X5_next_v (l : Launch) (htr : l.stackTraces = false) (D : va_G) (cI cJ cZ cV cR : ClassId) (a : Nat → Nat) (C : CT) (hM : kOk C) (x : Int32) (hbad : x.toInt < 0 ∨ ((k_rc C : Nat) : Int) ≤ x.toInt) (sz : Nat) : vx_Met l yX5_next wsX5_next rmx_X5_next_v (va_Pc [.ref (a 0), .int (x)] (GX D (tyK cI cJ cZ cV cR) (kW cI cJ cZ cV cR a C) sz)) xNo (xXC D (tyK cI cJ cZ cV cR) "java/lang/IndexOutOfBoundsException" (fun u : CT => u = C) (kW cI cJ cZ cV cR a) (va_A (kW cI cJ cZ cV cR a C) sz)) 1 6 (va_A (kW cI cJ cZ cV cR a C) sz) := by
  obtain ⟨hn, hfn, hsn, hvc, hrc, hpc, hnw, hkc, h_home, h_kin, h_alv, h_srs, h_row, h_sp, h_kis, h_pg⟩ := id hM
  refine vx_ofW (cc := cX5_next) (maxL := 4) (ret := (some .int)) (by decide) rfl ?_
  intro p e s m args below meth c s₁ B hml hout hv
  obtain ⟨rfl, ⟨hsz, hP, hK, hD0⟩, hXE⟩ := hv
  have hx := B.exec
  have hb := B.bytes
  have hr := B.returns
  have hts := atoms_spec (ws := wsX5_next) B.pre
  have hown : s.vm.findClass RX5 = some m.cls := findClass_of_methodNamed B.named
  have hlocks := B.notSynchronized
  subst hsz
  have hD := hD0.self (sz := s.heap.size)
  generalize hAe : va_A (kW cI cJ cZ cV cR a C) s.heap.size = A at hD hXE ⊢
  have hA : ∀ q : Nat, s.heap.size ≤ q → A q := fun q h => by rw [← hAe]; exact Or.inr h
  have hS : va_S A s.heap s.heap [] := va_S.rf
  have hP : va_P D vwCl (kX cI cJ cZ cV cR a (k_ra C) (k_rb C) (k_vc C) (k_rc C) (k_pc C) (k_nw C) (k_n C) (k_fn C) (k_sn C) (k_kc C) (k_grp C) (k_key C) (k_srt C) (k_wt C) (k_home C) (k_drp C) (k_met C) (k_kin C) (k_alv C) (k_srs C) (k_row C) (k_sp C) (k_kis C) (k_pg C) (k_vq C) (k_rq C) (k_L C) (k_F C)) s.heap := hP
  have hD : va_D A (kX cI cJ cZ cV cR a (k_ra C) (k_rb C) (k_vc C) (k_rc C) (k_pc C) (k_nw C) (k_n C) (k_fn C) (k_sn C) (k_kc C) (k_grp C) (k_key C) (k_srt C) (k_wt C) (k_home C) (k_drp C) (k_met C) (k_kin C) (k_alv C) (k_srs C) (k_row C) (k_sp C) (k_kis C) (k_pg C) (k_vq C) (k_rq C) (k_L C) (k_F C)) := hD
  have hl := lv_entry ([.ref (a 0), .int (x)]) (n := 4) (Nat.le_of_ble_eq_true rfl)
  rw [lg_entry_eq]
  generalize (lg_sl ([.ref (a 0), .int (x)]) ++ List.replicate (4 - (lg_sl ([.ref (a 0), .int (x)])).length) Slot.unset).toArray = ls at hl ⊢
  have hl : lv_has ls 4 [(0, .ref (a 0)), (1, .int (x))] := hl
  refine lv_aload_n hx hb dX5_next_0 rfl (lv_at hl 0 rfl) ?_
  refine lv_iload_n hx hb dX5_next_1 rfl (lv_at hl 1 rfl) ?_
  have hPm : va_P D vwCl (kW cI cJ cZ cV cR a C) s.heap := by exact hP
  have hDm : va_D A (kW cI cJ cZ cV cR a C) := by exact hD
  refine wx_V (As := [.int (x)]) (rest := []) (wf := kW cI cJ cZ cV cR a) ⟨hx, hb, hml, hown, hts⟩ (x_X5_readerAt l htr D cI cJ cZ cV cR a C hM x hbad s.heap.size) (cwV 1 hts gX5_next_X5_readerAt rfl rfl rfl (by decide +kernel) ⟨Nat.le_of_ble_eq_true rfl, Nat.le_of_ble_eq_true rfl⟩) hPm hK hDm hS hA hXE 0 rfl rfl rfl hl.1 rfl (Nat.le_of_ble_eq_true rfl) dX5_next_2 ⟨Nat.le_of_ble_eq_true rfl, Nat.le_of_ble_eq_true rfl⟩ (fun u hu H locs ce q9 hP hD hS hce hcv hcl => ?_)
  exact vx_out (fun x h => (hout x h).elim) hlocks hce hcv hcl (xxc_eq u hu hP hK hD hS) hS.2.2 (Nat.le_refl _) (Nat.le_refl _)
def rmx_X5_next_c : Room := { frames := 6, cells := 1, slots := 6, locals := 82 }
set_option maxHeartbeats 4000000 in
set_option maxRecDepth 100000 in
/-- a cursor -/
theorem x_X5_next_c (l : Launch) (htr : l.stackTraces = false) (D : va_G) (cI cJ cZ cV cR : ClassId) (a : Nat → Nat) (C : CT) (hM : kOk C) (q v hs : Nat) (cu : Bool) (kp gv en : Nat) (ed : Bool) (n9 : Nat) (f9 : Nat → Nat) (hR : isR (k_L C) (k_F C) q v hs cu kp gv en ed) (hI : isI cI (k_L C) (k_F C) hs n9 f9) (hn9 : n9 ≤ 300) (hgv : gv ≤ n9) (hkp : kp ≤ 1000) (hen : en ≤ 2000000000) (j9 : Nat) (hj9 : j9 < k_rc C) (hq9 : k_rq C j9 = some q) (hcu : cu = true) (sz : Nat) : vx_Met l yX5_next wsX5_next rmx_X5_next_c (va_Pc [.ref (a 0), .int (nI (j9))] (GX D (tyK cI cJ cZ cV cR) (kW cI cJ cZ cV cR a C) sz)) xNo (xXC D (tyK cI cJ cZ cV cR) "java/lang/IllegalArgumentException" (fun u : CT => u = C) (kW cI cJ cZ cV cR a) (va_A (kW cI cJ cZ cV cR a C) sz)) 1 6 (va_A (kW cI cJ cZ cV cR a C) sz) := by
  obtain ⟨hn, hfn, hsn, hvc, hrc, hpc, hnw, hkc, h_home, h_kin, h_alv, h_srs, h_row, h_sp, h_kis, h_pg⟩ := id hM
  refine vx_ofW (cc := cX5_next) (maxL := 4) (ret := (some .int)) (by decide) rfl ?_
  intro p e s m args below meth c s₁ B hml hout hv
  obtain ⟨rfl, ⟨hsz, hP, hK, hD0⟩, hXE⟩ := hv
  have hx := B.exec
  have hb := B.bytes
  have hr := B.returns
  have hts := atoms_spec (ws := wsX5_next) B.pre
  have hown : s.vm.findClass RX5 = some m.cls := findClass_of_methodNamed B.named
  have hlocks := B.notSynchronized
  subst hsz
  have hD := hD0.self (sz := s.heap.size)
  generalize hAe : va_A (kW cI cJ cZ cV cR a C) s.heap.size = A at hD hXE ⊢
  have hA : ∀ q : Nat, s.heap.size ≤ q → A q := fun q h => by rw [← hAe]; exact Or.inr h
  have hS : va_S A s.heap s.heap [] := va_S.rf
  have hP : va_P D vwCl (kX cI cJ cZ cV cR a (k_ra C) (k_rb C) (k_vc C) (k_rc C) (k_pc C) (k_nw C) (k_n C) (k_fn C) (k_sn C) (k_kc C) (k_grp C) (k_key C) (k_srt C) (k_wt C) (k_home C) (k_drp C) (k_met C) (k_kin C) (k_alv C) (k_srs C) (k_row C) (k_sp C) (k_kis C) (k_pg C) (k_vq C) (k_rq C) (k_L C) (k_F C)) s.heap := hP
  have hD : va_D A (kX cI cJ cZ cV cR a (k_ra C) (k_rb C) (k_vc C) (k_rc C) (k_pc C) (k_nw C) (k_n C) (k_fn C) (k_sn C) (k_kc C) (k_grp C) (k_key C) (k_srt C) (k_wt C) (k_home C) (k_drp C) (k_met C) (k_kin C) (k_alv C) (k_srs C) (k_row C) (k_sp C) (k_kis C) (k_pg C) (k_vq C) (k_rq C) (k_L C) (k_F C)) := hD
  have hiX1 : ∀ w ∈ wsX10, w ∈ wsX5_next := by decide +kernel
  have hf0 := hts (.fieldLink RX5 231 "GroupCursors$Reader" "isCursor" "Z") (by decide +kernel)
  have hf1 := hts (.classLink RX5 226 "java/lang/IllegalArgumentException") (by decide +kernel)
  have hf2 := hts (.initialized "java/lang/IllegalArgumentException") (by decide +kernel)
  have hl := lv_entry ([.ref (a 0), .int (nI (j9))]) (n := 4) (Nat.le_of_ble_eq_true rfl)
  rw [lg_entry_eq]
  generalize (lg_sl ([.ref (a 0), .int (nI (j9))]) ++ List.replicate (4 - (lg_sl ([.ref (a 0), .int (nI (j9))])).length) Slot.unset).toArray = ls at hl ⊢
  have hl : lv_has ls 4 [(0, .ref (a 0)), (1, .int (nI (j9)))] := hl
  refine lv_aload_n hx hb dX5_next_0 rfl (lv_at hl 0 rfl) ?_
  refine lv_iload_n hx hb dX5_next_1 rfl (lv_at hl 1 rfl) ?_
  have hPm : va_P D vwCl (kW cI cJ cZ cV cR a C) s.heap := by exact hP
  have hDm : va_D A (kW cI cJ cZ cV cR a C) := by exact hD
  refine wc_VWr (As := [.int (nI (j9))]) (rest := []) (ra := Prod.fst) (wf := fun u => kW cI cJ cZ cV cR a u.2) ⟨hx, hb, hml, hown, hts⟩ (c_X5_readerAt l D cI cJ cZ cV cR a C hM (j9) (q) (by omega) hq9 s.heap.size) (cwV 1 hts gX5_next_X5_readerAt rfl rfl rfl (by decide +kernel) ⟨Nat.le_of_ble_eq_true rfl, Nat.le_of_ble_eq_true rfl⟩) hPm hK hDm hS hA 0 rfl rfl rfl hl.1 rfl (Nat.le_of_ble_eq_true rfl) dX5_next_2 ⟨Nat.le_of_ble_eq_true rfl, Nat.le_of_ble_eq_true rfl⟩ (fun u1 hq1 H locs hP hD hS => ?_)
  have hu1 := hq1
  subst hu1
  have hP : va_P D vwCl (kX cI cJ cZ cV cR a (k_ra C) (k_rb C) (k_vc C) (k_rc C) (k_pc C) (k_nw C) (k_n C) (k_fn C) (k_sn C) (k_kc C) (k_grp C) (k_key C) (k_srt C) (k_wt C) (k_home C) (k_drp C) (k_met C) (k_kin C) (k_alv C) (k_srs C) (k_row C) (k_sp C) (k_kis C) (k_pg C) (k_vq C) (k_rq C) (k_L C) (k_F C)) H := hP
  have hD : va_D A (kX cI cJ cZ cV cR a (k_ra C) (k_rb C) (k_vc C) (k_rc C) (k_pc C) (k_nw C) (k_n C) (k_fn C) (k_sn C) (k_kc C) (k_grp C) (k_key C) (k_srt C) (k_wt C) (k_home C) (k_drp C) (k_met C) (k_kin C) (k_alv C) (k_srs C) (k_row C) (k_sp C) (k_kis C) (k_pg C) (k_vq C) (k_rq C) (k_L C) (k_F C)) := hD
  refine lv_astore_n (lv' := [(2, .ref (q)), (0, .ref (a 0)), (1, .int (nI (j9)))]) hx hb dX5_next_5 rfl hl (by decide) rfl (fun ls hl => ?_)
  refine lv_aload_n hx hb dX5_next_6 rfl (lv_at hl 0 rfl) ?_
  refine wp_get (ci := 1) (v := .int (bI (cu))) (C := RX1) (T := TX1) (N := 7) hx hb hts hiX1 hown hK hP hR.1 hR.2 rfl 2 (by decide) hf0 (fun _ h9 => h9) rfl dX5_next_7 ?_
  refine wb_if_eq (tgt := 24) hx hb dX5_next_10 (by decide) (fun c10_2 => ?_) (fun c10_2 => ?_)
  · exact absurd (hcu.symm.trans c10_2) (by decide)
  · have hPm : va_P D vwCl (kW cI cJ cZ cV cR a C) H := by exact hP
    have hDm : va_D A (kW cI cJ cZ cV cR a C) := by exact hD
    obtain ⟨sa, hsa⟩ := hXE.2.2.2.2 ("GroupCursors", 265, "a cursor gives pages") (by decide)
    exact vx_throwSW hx hb htr hown (by decide) (by decide) hf1 hf2 hsa (xat_X5_230 hXE (fun w hw => hts w (by unfold wsX5_next; simp only [List.mem_cons, List.mem_append, hw, or_true, true_or]))) xgd_X5_230 hXE.1 hXE.2.1 hS (hl.1.trans hml.symm) dX5_next_13 dX5_next_16 dX5_next_17 dX5_next_20 dX5_next_23 (fun x h => (hout x h).elim) (Nat.le_of_ble_eq_true rfl) (Nat.le_of_ble_eq_true rfl) (Nat.le_of_ble_eq_true rfl) (Nat.le_of_ble_eq_true rfl) hlocks (xxc_mk C rfl hPm hK hDm hS) hS.2.2 (Nat.le_refl _) (Nat.le_refl _)
def rmx_X5_next_e : Room := { frames := 6, cells := 1, slots := 6, locals := 82 }
set_option maxHeartbeats 4000000 in
set_option maxRecDepth 100000 in
/-- it has ended -/
theorem x_X5_next_e (l : Launch) (htr : l.stackTraces = false) (D : va_G) (cI cJ cZ cV cR : ClassId) (a : Nat → Nat) (C : CT) (hM : kOk C) (q v hs : Nat) (cu : Bool) (kp gv en : Nat) (ed : Bool) (n9 : Nat) (f9 : Nat → Nat) (hR : isR (k_L C) (k_F C) q v hs cu kp gv en ed) (hI : isI cI (k_L C) (k_F C) hs n9 f9) (hn9 : n9 ≤ 300) (hgv : gv ≤ n9) (hkp : kp ≤ 1000) (hen : en ≤ 2000000000) (j9 : Nat) (hj9 : j9 < k_rc C) (hq9 : k_rq C j9 = some q) (hcu : cu = false) (hbad : ed = true ∨ n9 - gv = 0) (sz : Nat) : vx_Met l yX5_next wsX5_next rmx_X5_next_e (va_Pc [.ref (a 0), .int (nI (j9))] (GX D (tyK cI cJ cZ cV cR) (kW cI cJ cZ cV cR a C) sz)) xNo (xXC D (tyK cI cJ cZ cV cR) "java/util/NoSuchElementException" (fun u : CT => u = C) (kW cI cJ cZ cV cR a) (va_A (kW cI cJ cZ cV cR a C) sz)) 1 6 (va_A (kW cI cJ cZ cV cR a C) sz) := by
  obtain ⟨hn, hfn, hsn, hvc, hrc, hpc, hnw, hkc, h_home, h_kin, h_alv, h_srs, h_row, h_sp, h_kis, h_pg⟩ := id hM
  refine vx_ofW (cc := cX5_next) (maxL := 4) (ret := (some .int)) (by decide) rfl ?_
  intro p e s m args below meth c s₁ B hml hout hv
  obtain ⟨rfl, ⟨hsz, hP, hK, hD0⟩, hXE⟩ := hv
  have hx := B.exec
  have hb := B.bytes
  have hr := B.returns
  have hts := atoms_spec (ws := wsX5_next) B.pre
  have hown : s.vm.findClass RX5 = some m.cls := findClass_of_methodNamed B.named
  have hlocks := B.notSynchronized
  subst hsz
  have hD := hD0.self (sz := s.heap.size)
  generalize hAe : va_A (kW cI cJ cZ cV cR a C) s.heap.size = A at hD hXE ⊢
  have hA : ∀ q : Nat, s.heap.size ≤ q → A q := fun q h => by rw [← hAe]; exact Or.inr h
  have hS : va_S A s.heap s.heap [] := va_S.rf
  have hP : va_P D vwCl (kX cI cJ cZ cV cR a (k_ra C) (k_rb C) (k_vc C) (k_rc C) (k_pc C) (k_nw C) (k_n C) (k_fn C) (k_sn C) (k_kc C) (k_grp C) (k_key C) (k_srt C) (k_wt C) (k_home C) (k_drp C) (k_met C) (k_kin C) (k_alv C) (k_srs C) (k_row C) (k_sp C) (k_kis C) (k_pg C) (k_vq C) (k_rq C) (k_L C) (k_F C)) s.heap := hP
  have hD : va_D A (kX cI cJ cZ cV cR a (k_ra C) (k_rb C) (k_vc C) (k_rc C) (k_pc C) (k_nw C) (k_n C) (k_fn C) (k_sn C) (k_kc C) (k_grp C) (k_key C) (k_srt C) (k_wt C) (k_home C) (k_drp C) (k_met C) (k_kin C) (k_alv C) (k_srs C) (k_row C) (k_sp C) (k_kis C) (k_pg C) (k_vq C) (k_rq C) (k_L C) (k_F C)) := hD
  have hiX1 : ∀ w ∈ wsX10, w ∈ wsX5_next := by decide +kernel
  have hf0 := hts (.fieldLink RX5 231 "GroupCursors$Reader" "isCursor" "Z") (by decide +kernel)
  have hf1 := hts (.fieldLink RX5 237 "GroupCursors$Reader" "ended" "Z") (by decide +kernel)
  have hf2 := hts (.classLink RX5 267 "java/util/NoSuchElementException") (by decide +kernel)
  have hf3 := hts (.initialized "java/util/NoSuchElementException") (by decide +kernel)
  have hl := lv_entry ([.ref (a 0), .int (nI (j9))]) (n := 4) (Nat.le_of_ble_eq_true rfl)
  rw [lg_entry_eq]
  generalize (lg_sl ([.ref (a 0), .int (nI (j9))]) ++ List.replicate (4 - (lg_sl ([.ref (a 0), .int (nI (j9))])).length) Slot.unset).toArray = ls at hl ⊢
  have hl : lv_has ls 4 [(0, .ref (a 0)), (1, .int (nI (j9)))] := hl
  refine lv_aload_n hx hb dX5_next_0 rfl (lv_at hl 0 rfl) ?_
  refine lv_iload_n hx hb dX5_next_1 rfl (lv_at hl 1 rfl) ?_
  have hPm : va_P D vwCl (kW cI cJ cZ cV cR a C) s.heap := by exact hP
  have hDm : va_D A (kW cI cJ cZ cV cR a C) := by exact hD
  refine wc_VWr (As := [.int (nI (j9))]) (rest := []) (ra := Prod.fst) (wf := fun u => kW cI cJ cZ cV cR a u.2) ⟨hx, hb, hml, hown, hts⟩ (c_X5_readerAt l D cI cJ cZ cV cR a C hM (j9) (q) (by omega) hq9 s.heap.size) (cwV 1 hts gX5_next_X5_readerAt rfl rfl rfl (by decide +kernel) ⟨Nat.le_of_ble_eq_true rfl, Nat.le_of_ble_eq_true rfl⟩) hPm hK hDm hS hA 0 rfl rfl rfl hl.1 rfl (Nat.le_of_ble_eq_true rfl) dX5_next_2 ⟨Nat.le_of_ble_eq_true rfl, Nat.le_of_ble_eq_true rfl⟩ (fun u1 hq1 H locs hP hD hS => ?_)
  have hu1 := hq1
  subst hu1
  have hP : va_P D vwCl (kX cI cJ cZ cV cR a (k_ra C) (k_rb C) (k_vc C) (k_rc C) (k_pc C) (k_nw C) (k_n C) (k_fn C) (k_sn C) (k_kc C) (k_grp C) (k_key C) (k_srt C) (k_wt C) (k_home C) (k_drp C) (k_met C) (k_kin C) (k_alv C) (k_srs C) (k_row C) (k_sp C) (k_kis C) (k_pg C) (k_vq C) (k_rq C) (k_L C) (k_F C)) H := hP
  have hD : va_D A (kX cI cJ cZ cV cR a (k_ra C) (k_rb C) (k_vc C) (k_rc C) (k_pc C) (k_nw C) (k_n C) (k_fn C) (k_sn C) (k_kc C) (k_grp C) (k_key C) (k_srt C) (k_wt C) (k_home C) (k_drp C) (k_met C) (k_kin C) (k_alv C) (k_srs C) (k_row C) (k_sp C) (k_kis C) (k_pg C) (k_vq C) (k_rq C) (k_L C) (k_F C)) := hD
  refine lv_astore_n (lv' := [(2, .ref (q)), (0, .ref (a 0)), (1, .int (nI (j9)))]) hx hb dX5_next_5 rfl hl (by decide) rfl (fun ls hl => ?_)
  refine lv_aload_n hx hb dX5_next_6 rfl (lv_at hl 0 rfl) ?_
  refine wp_get (ci := 1) (v := .int (bI (cu))) (C := RX1) (T := TX1) (N := 7) hx hb hts hiX1 hown hK hP hR.1 hR.2 rfl 2 (by decide) hf0 (fun _ h9 => h9) rfl dX5_next_7 ?_
  refine wb_if_eq (tgt := 24) hx hb dX5_next_10 (by decide) (fun c10_2 => ?_) (fun c10_2 => ?_)
  · refine lv_aload_n hx hb dX5_next_24 rfl (lv_at hl 0 rfl) ?_
    refine wp_get (ci := 1) (v := .int (bI (ed))) (C := RX1) (T := TX1) (N := 7) hx hb hts hiX1 hown hK hP hR.1 hR.2 rfl 6 (by decide) hf1 (fun _ h9 => h9) rfl dX5_next_25 ?_
    refine wb_if_ne (tgt := 38) hx hb dX5_next_28 (by decide) (fun c28_3 => ?_) (fun c28_3 => ?_)
    · have hPm : va_P D vwCl (kW cI cJ cZ cV cR a C) H := by exact hP
      have hDm : va_D A (kW cI cJ cZ cV cR a C) := by exact hD
      obtain ⟨sa, hsa⟩ := hXE.2.2.2.2 ("GroupCursors", 269, "the iterator has ended") (by decide)
      exact vx_throwSWX hx hb htr six13_0 six13_1 six13_2 six13_5 hown (by decide) (by decide) hf2 hf3 hsa (xat_X5_271 hXE (fun w hw => hts w (by unfold wsX5_next; simp only [List.mem_cons, List.mem_append, hw, or_true, true_or]))) xgd_X5_271 hXE.1 hXE.2.1 hS (hl.1.trans hml.symm) dX5_next_38 dX5_next_41 dX5_next_42 dX5_next_45 dX5_next_48 (fun x h => (hout x h).elim) (Nat.le_of_ble_eq_true rfl) (Nat.le_of_ble_eq_true rfl) (Nat.le_of_ble_eq_true rfl) (Nat.le_of_ble_eq_true rfl) hlocks (xxc_mk C rfl hPm hK hDm hS) hS.2.2 (Nat.le_refl _) (Nat.le_refl _)
    · refine lv_aload_n hx hb dX5_next_31 rfl (lv_at hl 0 rfl) ?_
      have hPm : va_P D vwCl (kW cI cJ cZ cV cR a C) H := by exact hP
      have hDm : va_D A (kW cI cJ cZ cV cR a C) := by exact hD
      obtain ⟨k4, hk4⟩ := kW_at (cI := cI) (cJ := cJ) (cZ := cZ) (cV := cV) (cR := cR) (a := a) (C := C) (e := .inr (1, [.ref (v), .ref (hs), .int (bI (cu)), .int (nI (kp)), .int (nI (gv)), .int (nI (en)), .int (bI (ed))])) hR
      refine wc_VWi (As := []) (rest := []) (wf := kW cI cJ cZ cV cR a) ⟨hx, hb, hml, hown, hts⟩ (c_X1_countLeft l D cI cJ cZ cV cR a C hM (q) (v) (hs) (cu) (kp) (gv) (en) (ed) (n9) (f9) hR hI (by omega) (by omega) (by omega) (by omega) H.size) (cwV 0 hts gX5_next_X1_countLeft rfl rfl rfl (by decide +kernel) ⟨Nat.le_of_ble_eq_true rfl, Nat.le_of_ble_eq_true rfl⟩) hPm hK hDm hS hA k4 hk4 rfl rfl hl.1 rfl (Nat.le_of_ble_eq_true rfl) dX5_next_32 ⟨Nat.zero_le _, Nat.zero_le _⟩ (fun rr u4 hq4 H locs hP hD hS => ?_)
      obtain ⟨hr4, hu4⟩ := hq4
      subst hr4
      have hu4 := hu4.symm
      subst hu4
      have hP : va_P D vwCl (kX cI cJ cZ cV cR a (k_ra C) (k_rb C) (k_vc C) (k_rc C) (k_pc C) (k_nw C) (k_n C) (k_fn C) (k_sn C) (k_kc C) (k_grp C) (k_key C) (k_srt C) (k_wt C) (k_home C) (k_drp C) (k_met C) (k_kin C) (k_alv C) (k_srs C) (k_row C) (k_sp C) (k_kis C) (k_pg C) (k_vq C) (k_rq C) (k_L C) (k_F C)) H := hP
      have hD : va_D A (kX cI cJ cZ cV cR a (k_ra C) (k_rb C) (k_vc C) (k_rc C) (k_pc C) (k_nw C) (k_n C) (k_fn C) (k_sn C) (k_kc C) (k_grp C) (k_key C) (k_srt C) (k_wt C) (k_home C) (k_drp C) (k_met C) (k_kin C) (k_alv C) (k_srs C) (k_row C) (k_sp C) (k_kis C) (k_pg C) (k_vq C) (k_rq C) (k_L C) (k_F C)) := hD
      refine wn_if_ne (a := n9 - gv) (tgt := 49) hx hb (nI_z (by omega)) dX5_next_35 (by decide) (fun c35_5 => ?_) (fun c35_5 => ?_)
      · exact hbad.elim (fun h9 => absurd (h9.symm.trans c28_3) (by decide)) (fun h9 => absurd h9 (by omega))
      · have hPm : va_P D vwCl (kW cI cJ cZ cV cR a C) H := by exact hP
        have hDm : va_D A (kW cI cJ cZ cV cR a C) := by exact hD
        obtain ⟨sa, hsa⟩ := hXE.2.2.2.2 ("GroupCursors", 269, "the iterator has ended") (by decide)
        exact vx_throwSWX hx hb htr six13_0 six13_1 six13_2 six13_5 hown (by decide) (by decide) hf2 hf3 hsa (xat_X5_271 hXE (fun w hw => hts w (by unfold wsX5_next; simp only [List.mem_cons, List.mem_append, hw, or_true, true_or]))) xgd_X5_271 hXE.1 hXE.2.1 hS (hl.1.trans hml.symm) dX5_next_38 dX5_next_41 dX5_next_42 dX5_next_45 dX5_next_48 (fun x h => (hout x h).elim) (Nat.le_of_ble_eq_true rfl) (Nat.le_of_ble_eq_true rfl) (Nat.le_of_ble_eq_true rfl) (Nat.le_of_ble_eq_true rfl) hlocks (xxc_mk C rfl hPm hK hDm hS) hS.2.2 (Nat.le_refl _) (Nat.le_refl _)
  · exact absurd (hcu.symm.trans c10_2) (by decide)
