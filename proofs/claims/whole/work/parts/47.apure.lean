/-! the two rows of the ranking change places -/
def gsw (k : Nat) : Nat := if k = 12 then 13 else if k = 13 then 12 else k
theorem gsw_inj {i j : Nat} (h : gsw i = gsw j) : i = j := by
  unfold gsw at h
  split at h <;> (try split at h) <;> (try split at h) <;> (try split at h) <;> omega
theorem kX_sw {cI cJ cZ cV cR : ClassId} {a : Nat → Nat} {ra : Nat} {rb : Nat} {vc : Nat} {rc : Nat} {pc : Nat} {nw : Nat} {n : Nat} {fn : Nat} {sn : Nat} {kc : Nat} {grp : Nat → Int64} {key : Nat → Int64} {srt : Nat → Int64} {wt : Nat → Int64} {home : Nat → Int} {drp : Nat → Bool} {met : Nat → Bool} {kin : Nat → Nat} {alv : Nat → Nat} {srs : Nat → Nat} {row : Nat → Nat} {sp : Nat → Nat} {kis : Nat → Nat} {pg : Nat → Nat} {vq : Nat → Option Nat} {rq : Nat → Option Nat} {L : List Nat} {F : Nat → va_E} (k : Nat) (q : Nat × va_E) (hk : (kX cI cJ cZ cV cR a rb ra vc rc pc nw n fn sn kc grp key srt wt home drp met kin alv srs sp row kis pg vq rq L F)[k]? = some q) : ((kX cI cJ cZ cV cR a ra rb vc rc pc nw n fn sn kc grp key srt wt home drp met kin alv srs row sp kis pg vq rq L F).set 11 (a 11, .inr (0, [.ref (a 1), .ref rb, .ref ra, .ref (a 14), .ref (a 15), .ref (a 16), .int (nI kc)])))[gsw k]? = some q := by
  match k, hk with
  | 0, hk => exact hk
  | 1, hk => exact hk
  | 2, hk => exact hk
  | 3, hk => exact hk
  | 4, hk => exact hk
  | 5, hk => exact hk
  | 6, hk => exact hk
  | 7, hk => exact hk
  | 8, hk => exact hk
  | 9, hk => exact hk
  | 10, hk => exact hk
  | 11, hk => exact hk
  | 12, hk => exact hk
  | 13, hk => exact hk
  | k + 14, hk =>
    have e : gsw (k + 14) = k + 14 := by unfold gsw; rw [if_neg (by omega), if_neg (by omega)]
    rw [e]
    exact hk
theorem kX_swP {D : va_G} {cI cJ cZ cV cR : ClassId} {a : Nat → Nat} {ra : Nat} {rb : Nat} {vc : Nat} {rc : Nat} {pc : Nat} {nw : Nat} {n : Nat} {fn : Nat} {sn : Nat} {kc : Nat} {grp : Nat → Int64} {key : Nat → Int64} {srt : Nat → Int64} {wt : Nat → Int64} {home : Nat → Int} {drp : Nat → Bool} {met : Nat → Bool} {kin : Nat → Nat} {alv : Nat → Nat} {srs : Nat → Nat} {row : Nat → Nat} {sp : Nat → Nat} {kis : Nat → Nat} {pg : Nat → Nat} {vq : Nat → Option Nat} {rq : Nat → Option Nat} {L : List Nat} {F : Nat → va_E} {H : Heap} (h : va_P D vwCl ((kX cI cJ cZ cV cR a ra rb vc rc pc nw n fn sn kc grp key srt wt home drp met kin alv srs row sp kis pg vq rq L F).set 11 (a 11, .inr (0, [.ref (a 1), .ref rb, .ref ra, .ref (a 14), .ref (a 15), .ref (a 16), .int (nI kc)]))) H) : va_P D vwCl (kX cI cJ cZ cV cR a rb ra vc rc pc nw n fn sn kc grp key srt wt home drp met kin alv srs sp row kis pg vq rq L F) H := h.by gsw kX_sw
theorem kX_swD {A : Nat → Prop} {cI cJ cZ cV cR : ClassId} {a : Nat → Nat} {ra : Nat} {rb : Nat} {vc : Nat} {rc : Nat} {pc : Nat} {nw : Nat} {n : Nat} {fn : Nat} {sn : Nat} {kc : Nat} {grp : Nat → Int64} {key : Nat → Int64} {srt : Nat → Int64} {wt : Nat → Int64} {home : Nat → Int} {drp : Nat → Bool} {met : Nat → Bool} {kin : Nat → Nat} {alv : Nat → Nat} {srs : Nat → Nat} {row : Nat → Nat} {sp : Nat → Nat} {kis : Nat → Nat} {pg : Nat → Nat} {vq : Nat → Option Nat} {rq : Nat → Option Nat} {L : List Nat} {F : Nat → va_E} (h : va_D A ((kX cI cJ cZ cV cR a ra rb vc rc pc nw n fn sn kc grp key srt wt home drp met kin alv srs row sp kis pg vq rq L F).set 11 (a 11, .inr (0, [.ref (a 1), .ref rb, .ref ra, .ref (a 14), .ref (a 15), .ref (a 16), .int (nI kc)])))) : va_D A (kX cI cJ cZ cV cR a rb ra vc rc pc nw n fn sn kc grp key srt wt home drp met kin alv srs sp row kis pg vq rq L F) := h.by gsw kX_sw (fun _ _ _ _ e => gsw_inj e)
theorem nmin {x y : Nat} (hx : x < 2147483648) (hy : y < 2147483648) : (if nI y < nI x then nI y else nI x) = nI (min x y) := by
  by_cases h : y < x
  · rw [if_pos ((nI_ltI (by omega) (by omega)).mpr h), Nat.min_eq_right (by omega)]
  · rw [if_neg (fun q => h ((nI_ltI (by omega) (by omega)).mp q)), Nat.min_eq_left (by omega)]
theorem blk_eq {n w t : Nat} (hw : 0 < w) (h1 : n ≤ 2 * w * t) (h2 : t = 0 ∨ 2 * w * (t - 1) < n) : t = blk n w := by
  unfold blk
  have hp : 0 < 2 * w := by omega
  symm
  rw [Nat.div_eq_iff hp]
  rcases h2 with h2 | h2
  · subst h2; simp at h1; subst h1; omega
  · rcases Nat.eq_zero_or_pos t with z | z
    · subst z; simp at h1; subst h1; omega
    · obtain ⟨s, rfl⟩ : ∃ s, t = s + 1 := ⟨t - 1, by omega⟩
      rw [Nat.add_sub_cancel] at h2
      rw [Nat.mul_succ] at h1
      rw [Nat.mul_comm (s + 1) (2 * w), Nat.mul_succ]
      omega
def anM (C : CT) (kd : Nat) (sd : Int64) : CT := (mkC ((srtL (wgL (k_srt C) (k_key C) (k_wt C) (k_row C) kd sd (k_kc C)) (k_key C) (k_kc C) (k_row C) (k_sp C) (k_ra C) (k_rb C) (npass (k_kc C))).2.2.1) ((srtL (wgL (k_srt C) (k_key C) (k_wt C) (k_row C) kd sd (k_kc C)) (k_key C) (k_kc C) (k_row C) (k_sp C) (k_ra C) (k_rb C) (npass (k_kc C))).2.2.2) (k_vc C) (k_rc C) (k_pc C) (k_nw C) (k_n C) (k_fn C) (k_sn C) (k_kc C) (k_grp C) (k_key C) (k_srt C) (wgL (k_srt C) (k_key C) (k_wt C) (k_row C) kd sd (k_kc C)) (k_home C) (k_drp C) (k_met C) (k_kin C) (k_alv C) (k_srs C) ((srtL (wgL (k_srt C) (k_key C) (k_wt C) (k_row C) kd sd (k_kc C)) (k_key C) (k_kc C) (k_row C) (k_sp C) (k_ra C) (k_rb C) (npass (k_kc C))).1) ((srtL (wgL (k_srt C) (k_key C) (k_wt C) (k_row C) kd sd (k_kc C)) (k_key C) (k_kc C) (k_row C) (k_sp C) (k_ra C) (k_rb C) (npass (k_kc C))).2.1) (k_kis C) (k_pg C) (k_vq C) (k_rq C) (k_L C) (k_F C))
theorem ok_rs {C : CT} (hM : kOk C) {x y : Nat} {w : Nat → Int64} {f e : Nat → Nat} (h : ∀ j, f j < 300) (g : ∀ j, e j < 300) : kOk (mkC (x) (y) (k_vc C) (k_rc C) (k_pc C) (k_nw C) (k_n C) (k_fn C) (k_sn C) (k_kc C) (k_grp C) (k_key C) (k_srt C) (w) (k_home C) (k_drp C) (k_met C) (k_kin C) (k_alv C) (k_srs C) (f) (e) (k_kis C) (k_pg C) (k_vq C) (k_rq C) (k_L C) (k_F C)) := by
  obtain ⟨h1, h2, h3, h4, h5, h6, h7, h8, h9, h10, h11, h12, h13, h14, h15, h16⟩ := id hM
  exact ⟨h1, h2, h3, h4, h5, h6, h7, h8, h9, h10, h11, h12, h, g, h15, h16⟩
