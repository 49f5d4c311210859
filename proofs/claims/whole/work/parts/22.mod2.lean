def w_X12_level_57 (N : Nat) (post : Int32 → Sx → Prop) (s : Sx) (x1 : Int32) (x2 : Int32) (x3 : Int32) (z0 : Int32) : Prop := vp_in x1 5 ∧ ∀ s_13, s_13 = setI s 5 47 x1.toNatClampNeg x2 → vp_in x1 5 ∧ ∀ s_15, s_15 = setI s_13 5 48 x1.toNatClampNeg x3 → post z0 s_15
def w_X12_level_56 (N : Nat) (post : Int32 → Sx → Prop) (s : Sx) (x1 : Int32) (x2 : Int32) (x3 : Int32) : Prop := w_X12_level_57 N post s x1 x2 x3 1
def w_X12_level (N : Nat) (x1 : Int32) (x2 : Int32) (x3 : Int32) (s : Sx) (post : Int32 → Sx → Prop) : Prop := w_X12_within N x1 0 4 s (fun r_2 s_1 => (r_2 = 0 → post ((-2)) s_1) ∧ (¬ (r_2 = 0) → w_X12_within N x2 0 99 s_1 (fun r_5 s_4 => (r_5 = 0 → post ((-2)) s_4) ∧ (¬ (r_5 = 0) → w_X12_within N x3 1 99 s_4 (fun r_8 s_7 => (¬ r_8 = 0 → vp_in x1 5 ∧ (¬ (s_7.1 5 47 x1.toNatClampNeg) = x2 → w_X12_level_56 N post s_7 x1 x2 x3) ∧ (¬ (¬ (s_7.1 5 47 x1.toNatClampNeg) = x2) → vp_in x1 5 ∧ (¬ (s_7.1 5 48 x1.toNatClampNeg) = x3 → w_X12_level_56 N post s_7 x1 x2 x3) ∧ (¬ (¬ (s_7.1 5 48 x1.toNatClampNeg) = x3) → w_X12_level_57 N post s_7 x1 x2 x3 0))) ∧ (¬ (¬ r_8 = 0) → post ((-2)) s_7))))))
set_option maxHeartbeats 4000000 in
theorem b_X12_level_57 {X : Kx} {a : Ax} {N : Nat} {post : Int32 → Sx → Prop}  (hC : Cx X cX12_level 5 RX12) (hR : X.R = { frames := 1, cells := 0, slots := 0, locals := 22 }) (hQ : X.Q = MQ X.below (Qi X.G a post) X.av X.s 0 0 (bs_ X.G)) (hr : X.meth.sig.returnType = (some .int))   (s : Sx) (x1 : Int32) (x2 : Int32) (x3 : Int32) (z0 : Int32) (h : w_X12_level_57 N post  s x1 x2 x3 z0) : wk X a s 5 57 [(0, .ref (adr X.G a 6 0)), (1, .int x1), (2, .int x2), (3, .int x3)] [.int z0] 0 0 := by
  unfold w_X12_level_57 at h
  refine k_istore hC (pc := 57) dX12_level_57 [(4, .int z0), (0, .ref (adr X.G a 6 0)), (1, .int x1), (2, .int x2), (3, .int x3)] (by decide) rfl ?_
  refine k_aload_n hC (pc := 59) dX12_level_59 1 rfl ?_
  refine gf_X12_47 hC (pc := 60)  fl_RX12_116 dX12_level_60 ?_
  refine k_iload_n hC (pc := 63) dX12_level_63 2 rfl ?_
  refine k_iload_n hC (pc := 64) dX12_level_64 3 rfl ?_
  obtain ⟨c_12, h⟩ := h
  refine r_iast hC (pc := 65) ra5_47 c_12 dX12_level_65 (fun s_13 h_s_13 => ?_)
  have h := h s_13 h_s_13
  refine k_aload_n hC (pc := 66) dX12_level_66 1 rfl ?_
  refine gf_X12_48 hC (pc := 67)  fl_RX12_119 dX12_level_67 ?_
  refine k_iload_n hC (pc := 70) dX12_level_70 2 rfl ?_
  refine k_iload_n hC (pc := 71) dX12_level_71 4 rfl ?_
  obtain ⟨c_14, h⟩ := h
  refine r_iast hC (pc := 72) ra5_48 c_14 dX12_level_72 (fun s_15 h_s_15 => ?_)
  have h := h s_15 h_s_15
  refine k_iload hC (pc := 73) dX12_level_73 0 rfl ?_
  exact k_iret hC (pc := 75) hQ hr dX12_level_75 h
set_option maxHeartbeats 4000000 in
theorem b_X12_level_56 {X : Kx} {a : Ax} {N : Nat} {post : Int32 → Sx → Prop}  (hC : Cx X cX12_level 5 RX12) (hR : X.R = { frames := 1, cells := 0, slots := 0, locals := 22 }) (hQ : X.Q = MQ X.below (Qi X.G a post) X.av X.s 0 0 (bs_ X.G)) (hr : X.meth.sig.returnType = (some .int))   (s : Sx) (x1 : Int32) (x2 : Int32) (x3 : Int32) (h : w_X12_level_56 N post  s x1 x2 x3) : wk X a s 5 56 [(0, .ref (adr X.G a 6 0)), (1, .int x1), (2, .int x2), (3, .int x3)] [] 0 0 := by
  unfold w_X12_level_56 at h
  refine k_iconst hC (pc := 56) (v := 1) dX12_level_56 ic_1 ?_
  exact b_X12_level_57 hC hR hQ hr _ _ _ _ _ h
set_option maxHeartbeats 4000000 in
theorem b_X12_level {X : Kx} {a : Ax} {N : Nat} {post : Int32 → Sx → Prop} (hC : Cx X cX12_level 5 RX12) (hR : X.R = { frames := 1, cells := 0, slots := 0, locals := 22 }) (hQ : X.Q = MQ X.below (Qi X.G a post) X.av X.s 0 0 (bs_ X.G)) (hr : X.meth.sig.returnType = (some .int)) (hn : X.meth.name = "level") (s : Sx) (x1 : Int32) (x2 : Int32) (x3 : Int32) (h : w_X12_level N x1 x2 x3 s post) : wk X a s 5 0 [(0, .ref (adr X.G a 6 0)), (1, .int x1), (2, .int x2), (3, .int x3)] [] 0 0 := by
  unfold w_X12_level at h
  refine k_iload_n hC (pc := 0) dX12_level_0 1 rfl ?_
  refine k_iconst hC (pc := 1) (v := 0) dX12_level_1 ic_0 ?_
  refine k_iconst hC (pc := 2) (v := 4) dX12_level_2 ic_4 ?_
  refine k_ci (rn_S hC (pc := 3) (As := [.int x1, .int 0, .int 4]) (rest := []) ca_X12_within ml_RX12_186 sm_X12_within (ct_X12_within x1 0 4 h) (by rw [hR]; exact ⟨rfl, rfl, by decide, by decide⟩) rfl (Nat.le_of_ble_eq_true rfl) dX12_level_3 ⟨by rw [hR]; decide, by rw [hR]; decide⟩) (fun r_2 s_1 h => ?_)
  refine k_if_eq hC (pc := 6) 29 dX12_level_6 (by decide) (fun c_3 => ?_) (fun c_3 => ?_)
  · have h := h.1 c_3
    refine k_bipush hC (pc := 29) (v := (-2)) dX12_level_29 bp_m2 ?_
    exact k_iret hC (pc := 31) hQ hr dX12_level_31 h
  · have h := h.2 c_3
    refine k_iload_n hC (pc := 9) dX12_level_9 2 rfl ?_
    refine k_iconst hC (pc := 10) (v := 0) dX12_level_10 ic_0 ?_
    refine k_bipush hC (pc := 11) (v := 99) dX12_level_11 bp_99 ?_
    refine k_ci (rn_S hC (pc := 13) (As := [.int x2, .int 0, .int 99]) (rest := []) ca_X12_within ml_RX12_186 sm_X12_within (ct_X12_within x2 0 99 h) (by rw [hR]; exact ⟨rfl, rfl, by decide, by decide⟩) rfl (Nat.le_of_ble_eq_true rfl) dX12_level_13 ⟨by rw [hR]; decide, by rw [hR]; decide⟩) (fun r_5 s_4 h => ?_)
    refine k_if_eq hC (pc := 16) 29 dX12_level_16 (by decide) (fun c_6 => ?_) (fun c_6 => ?_)
    · have h := h.1 c_6
      refine k_bipush hC (pc := 29) (v := (-2)) dX12_level_29 bp_m2 ?_
      exact k_iret hC (pc := 31) hQ hr dX12_level_31 h
    · have h := h.2 c_6
      refine k_iload_n hC (pc := 19) dX12_level_19 3 rfl ?_
      refine k_iconst hC (pc := 20) (v := 1) dX12_level_20 ic_1 ?_
      refine k_bipush hC (pc := 21) (v := 99) dX12_level_21 bp_99 ?_
      refine k_ci (rn_S hC (pc := 23) (As := [.int x3, .int 1, .int 99]) (rest := []) ca_X12_within ml_RX12_186 sm_X12_within (ct_X12_within x3 1 99 h) (by rw [hR]; exact ⟨rfl, rfl, by decide, by decide⟩) rfl (Nat.le_of_ble_eq_true rfl) dX12_level_23 ⟨by rw [hR]; decide, by rw [hR]; decide⟩) (fun r_8 s_7 h => ?_)
      refine k_if_ne hC (pc := 26) 32 dX12_level_26 (by decide) (fun c_9 => ?_) (fun c_9 => ?_)
      · have h := h.1 c_9
        refine k_aload_n hC (pc := 32) dX12_level_32 0 rfl ?_
        refine gf_X12_47 hC (pc := 33)  fl_RX12_116 dX12_level_33 ?_
        refine k_iload_n hC (pc := 36) dX12_level_36 1 rfl ?_
        obtain ⟨c_10, h⟩ := h
        refine r_iald hC (pc := 37) ra5_47 c_10 dX12_level_37 ?_
        refine k_iload_n hC (pc := 38) dX12_level_38 2 rfl ?_
        refine k_icmp_ne hC (pc := 39) 56 dX12_level_39 (by decide) (fun c_11 => ?_) (fun c_11 => ?_)
        · have h := h.1 c_11
          exact b_X12_level_56 hC hR hQ hr _ _ _ _ h
        · have h := h.2 c_11
          refine k_aload_n hC (pc := 42) dX12_level_42 0 rfl ?_
          refine gf_X12_48 hC (pc := 43)  fl_RX12_119 dX12_level_43 ?_
          refine k_iload_n hC (pc := 46) dX12_level_46 1 rfl ?_
          obtain ⟨c_16, h⟩ := h
          refine r_iald hC (pc := 47) ra5_48 c_16 dX12_level_47 ?_
          refine k_iload_n hC (pc := 48) dX12_level_48 3 rfl ?_
          refine k_icmp_ne hC (pc := 49) 56 dX12_level_49 (by decide) (fun c_17 => ?_) (fun c_17 => ?_)
          · have h := h.1 c_17
            exact b_X12_level_56 hC hR hQ hr _ _ _ _ h
          · have h := h.2 c_17
            refine k_iconst hC (pc := 52) (v := 0) dX12_level_52 ic_0 ?_
            refine k_goto hC (pc := 53) 57 dX12_level_53 (by decide) ?_
            exact b_X12_level_57 hC hR hQ hr _ _ _ _ _ h
      · have h := h.2 c_9
        refine k_bipush hC (pc := 29) (v := (-2)) dX12_level_29 bp_m2 ?_
        exact k_iret hC (pc := 31) hQ hr dX12_level_31 h
theorem ct_X12_level {l : Launch} {G : Gx} {a : Ax} {s : Sx} {N : Nat} {post : Int32 → Sx → Prop} (x1 : Int32) (x2 : Int32) (x3 : Int32) (h : w_X12_level N x1 x2 x3 s post) : Met l yX12_level (Cond.code yX12_level cX12_level 5 (some .int) :: gw) { frames := 1, cells := 0, slots := 0, locals := 22 } (va_Pc [.ref (adr G a 6 0), .int x1, .int x2, .int x3] (fun U => FU G a s U)) (Qi G a post) 0 0 (bs_ G) := met_of (plainFor_of_name (by decide)) (Nat.le_of_ble_eq_true rfl) rfl (fun X hC hl hR hQ hr hG hn => by subst hG; exact b_X12_level hC hR hQ hr hn s x1 x2 x3 h)
theorem ca_X12_level : Ca yX12_level cX12_level 5 (some .int) 3 := ⟨cd_X12_level, ii_RX12, by decide, by decide, by decide +kernel⟩
def w_X12_toldBy_11 (N : Nat) (post : Int64 → Sx → Prop) : Nat → Sx → Int32 → Int64 → Int32 → Prop
  | 0, _, _, _, _ => False
  | n + 1, s, x2, y3, x5 => (x2 < x5 → post y3 s) ∧ (¬ (x2 < x5) → vp_in x5 5 ∧ ∀ x_5 : Int64, x_5 = y3 * ((s.1 5 47 x5.toNatClampNeg).toInt64) → vp_in x5 5 ∧ ¬ ((s.1 5 48 x5.toNatClampNeg).toInt64) = 0 ∧ vp_in x5 5 ∧ ¬ ((s.1 5 48 x5.toNatClampNeg).toInt64) = 0 ∧ ((lg_cmp (x_5 - x_5 / ((s.1 5 48 x5.toNatClampNeg).toInt64) * ((s.1 5 48 x5.toNatClampNeg).toInt64)) 0) ≤ 0 → ∀ x_11 : Int64, x_11 = (x_5 / ((s.1 5 48 x5.toNatClampNeg).toInt64)) + 0 → ∀ x_12 : Int32, x_12 = x5 + 1 → w_X12_toldBy_11 N post n s x2 x_11 x_12) ∧ (¬ ((lg_cmp (x_5 - x_5 / ((s.1 5 48 x5.toNatClampNeg).toInt64) * ((s.1 5 48 x5.toNatClampNeg).toInt64)) 0) ≤ 0) → ∀ x_13 : Int64, x_13 = (x_5 / ((s.1 5 48 x5.toNatClampNeg).toInt64)) + 1 → ∀ x_14 : Int32, x_14 = x5 + 1 → w_X12_toldBy_11 N post n s x2 x_13 x_14))
def w_X12_toldBy (N : Nat) (x1 : Int32) (x2 : Int32) (s : Sx) (post : Int64 → Sx → Prop) : Prop := vp_in x1 8 ∧ ∀ x_2 : Int64, x_2 = (s.1 5 43 x1.toNatClampNeg).toInt64 → w_X12_toldBy_11 N post N s x2 x_2 0
set_option maxHeartbeats 4000000 in
theorem b_X12_toldBy_11 {X : Kx} {a : Ax} {N : Nat} {post : Int64 → Sx → Prop}  (hC : Cx X cX12_toldBy 8 RX12) (hR : X.R = { frames := 0, cells := 0, slots := 0, locals := 0 }) (hQ : X.Q = MQ X.below (Ql X.G a post) X.av X.s 0 0 (bs_ X.G)) (hr : X.meth.sig.returnType = (some .long))   : ∀ (n : Nat) (s : Sx) (x2 : Int32) (y3 : Int64) (x5 : Int32), w_X12_toldBy_11 N post  n s x2 y3 x5 → wk X a s 8 11 [(0, .ref (adr X.G a 6 0)), (2, .int x2), (3, .long y3), (5, .int x5)] [] 0 0 := by
  intro n
  induction n with
  | zero => intro s x2 y3 x5 h; exact h.elim
  | succ n ih =>
    intro s x2 y3 x5 h
    unfold w_X12_toldBy_11 at h
    refine k_iload hC (pc := 11) dX12_toldBy_11 3 rfl ?_
    refine k_iload_n hC (pc := 13) dX12_toldBy_13 1 rfl ?_
    refine k_icmp_gt hC (pc := 14) 69 dX12_toldBy_14 (by decide) (fun c_3 => ?_) (fun c_3 => ?_)
    · have h := h.1 c_3
      refine k_lload_n hC (pc := 69) dX12_toldBy_69 2 rfl ?_
      exact k_lret hC (pc := 70) hQ hr dX12_toldBy_70 h
    · have h := h.2 c_3
      refine k_lload_n hC (pc := 17) dX12_toldBy_17 2 rfl ?_
      refine k_aload_n hC (pc := 18) dX12_toldBy_18 0 rfl ?_
      refine gf_X12_47 hC (pc := 19)  fl_RX12_116 dX12_toldBy_19 ?_
      refine k_iload hC (pc := 22) dX12_toldBy_22 3 rfl ?_
      obtain ⟨c_4, h⟩ := h
      refine r_iald hC (pc := 24) ra5_47 c_4 dX12_toldBy_24 ?_
      refine k_i2l hC (pc := 25) dX12_toldBy_25 ?_
      refine k_lmul hC (pc := 26) dX12_toldBy_26 ?_
      refine k_topl (fun x_5 h_x_5 => ?_)
      have h := h x_5 h_x_5
      refine k_lstore hC (pc := 27) dX12_toldBy_27 [(6, .long x_5), (0, .ref (adr X.G a 6 0)), (2, .int x2), (3, .long y3), (5, .int x5)] (by decide) rfl ?_
      refine k_lload hC (pc := 29) dX12_toldBy_29 0 rfl ?_
      refine k_aload_n hC (pc := 31) dX12_toldBy_31 1 rfl ?_
      refine gf_X12_48 hC (pc := 32)  fl_RX12_119 dX12_toldBy_32 ?_
      refine k_iload hC (pc := 35) dX12_toldBy_35 4 rfl ?_
      obtain ⟨c_6, h⟩ := h
      refine r_iald hC (pc := 37) ra5_48 c_6 dX12_toldBy_37 ?_
      refine k_i2l hC (pc := 38) dX12_toldBy_38 ?_
      obtain ⟨c_7, h⟩ := h
      refine k_ldiv hC (pc := 39) dX12_toldBy_39 c_7 ?_
      refine k_lload hC (pc := 40) dX12_toldBy_40 0 rfl ?_
      refine k_aload_n hC (pc := 42) dX12_toldBy_42 1 rfl ?_
      refine gf_X12_48 hC (pc := 43)  fl_RX12_119 dX12_toldBy_43 ?_
      refine k_iload hC (pc := 46) dX12_toldBy_46 4 rfl ?_
      obtain ⟨c_8, h⟩ := h
      refine r_iald hC (pc := 48) ra5_48 c_8 dX12_toldBy_48 ?_
      refine k_i2l hC (pc := 49) dX12_toldBy_49 ?_
      obtain ⟨c_9, h⟩ := h
      refine k_lrem hC (pc := 50) dX12_toldBy_50 c_9 ?_
      refine k_lconst hC (pc := 51) (v := 0) dX12_toldBy_51 rfl ?_
      refine k_lcmp hC (pc := 52) dX12_toldBy_52 ?_
      refine k_if_le hC (pc := 53) 60 dX12_toldBy_53 (by decide) (fun c_10 => ?_) (fun c_10 => ?_)
      · have h := h.1 c_10
        refine k_lconst hC (pc := 60) (v := 0) dX12_toldBy_60 rfl ?_
        refine k_ladd hC (pc := 61) dX12_toldBy_61 ?_
        refine k_topl (fun x_11 h_x_11 => ?_)
        have h := h x_11 h_x_11
        refine k_lstore_n hC (pc := 62) dX12_toldBy_62 [(3, .long x_11), (6, .long x_5), (0, .ref (adr X.G a 6 0)), (2, .int x2), (5, .int x5)] (by decide) rfl ?_
        obtain ⟨x_12, h_x_12⟩ : ∃ z : Int32, z = x5 + 1 := ⟨_, rfl⟩
        have h := h x_12 h_x_12
        refine k_iincw hC (pc := 63) dX12_toldBy_63 4 rfl ic_1 h_x_12.symm [(5, .int x_12), (3, .long x_11), (6, .long x_5), (0, .ref (adr X.G a 6 0)), (2, .int x2)] (by decide) rfl ?_
        refine k_goto hC (pc := 66) 11 dX12_toldBy_66 (by decide) ?_
        refine k_sub [(0, .ref (adr X.G a 6 0)), (2, .int x2), (3, .long x_11), (5, .int x_12)] [3, 4, 1, 0] rfl ?_
        exact ih _ _ _ _ h
      · have h := h.2 c_10
        refine k_lconst hC (pc := 56) (v := 1) dX12_toldBy_56 rfl ?_
        refine k_goto hC (pc := 57) 61 dX12_toldBy_57 (by decide) ?_
        refine k_ladd hC (pc := 61) dX12_toldBy_61 ?_
        refine k_topl (fun x_13 h_x_13 => ?_)
        have h := h x_13 h_x_13
        refine k_lstore_n hC (pc := 62) dX12_toldBy_62 [(3, .long x_13), (6, .long x_5), (0, .ref (adr X.G a 6 0)), (2, .int x2), (5, .int x5)] (by decide) rfl ?_
        obtain ⟨x_14, h_x_14⟩ : ∃ z : Int32, z = x5 + 1 := ⟨_, rfl⟩
        have h := h x_14 h_x_14
        refine k_iincw hC (pc := 63) dX12_toldBy_63 4 rfl ic_1 h_x_14.symm [(5, .int x_14), (3, .long x_13), (6, .long x_5), (0, .ref (adr X.G a 6 0)), (2, .int x2)] (by decide) rfl ?_
        refine k_goto hC (pc := 66) 11 dX12_toldBy_66 (by decide) ?_
        refine k_sub [(0, .ref (adr X.G a 6 0)), (2, .int x2), (3, .long x_13), (5, .int x_14)] [3, 4, 1, 0] rfl ?_
        exact ih _ _ _ _ h
set_option maxHeartbeats 4000000 in
theorem b_X12_toldBy {X : Kx} {a : Ax} {N : Nat} {post : Int64 → Sx → Prop} (hC : Cx X cX12_toldBy 8 RX12) (hR : X.R = { frames := 0, cells := 0, slots := 0, locals := 0 }) (hQ : X.Q = MQ X.below (Ql X.G a post) X.av X.s 0 0 (bs_ X.G)) (hr : X.meth.sig.returnType = (some .long)) (hn : X.meth.name = "toldBy") (s : Sx) (x1 : Int32) (x2 : Int32) (h : w_X12_toldBy N x1 x2 s post) : wk X a s 8 0 [(0, .ref (adr X.G a 6 0)), (1, .int x1), (2, .int x2)] [] 0 0 := by
  unfold w_X12_toldBy at h
  refine k_aload_n hC (pc := 0) dX12_toldBy_0 0 rfl ?_
  refine gf_X12_43 hC (pc := 1)  fl_RX12_107 dX12_toldBy_1 ?_
  refine k_iload_n hC (pc := 4) dX12_toldBy_4 1 rfl ?_
  obtain ⟨c_1, h⟩ := h
  refine r_iald hC (pc := 5) ra5_43 c_1 dX12_toldBy_5 ?_
  refine k_i2l hC (pc := 6) dX12_toldBy_6 ?_
  refine k_topl (fun x_2 h_x_2 => ?_)
  have h := h x_2 h_x_2
  refine k_lstore_n hC (pc := 7) dX12_toldBy_7 [(3, .long x_2), (0, .ref (adr X.G a 6 0)), (1, .int x1), (2, .int x2)] (by decide) rfl ?_
  refine k_iconst hC (pc := 8) (v := 0) dX12_toldBy_8 ic_0 ?_
  refine k_istore hC (pc := 9) dX12_toldBy_9 [(5, .int 0), (3, .long x_2), (0, .ref (adr X.G a 6 0)), (1, .int x1), (2, .int x2)] (by decide) rfl ?_
  refine k_sub [(0, .ref (adr X.G a 6 0)), (2, .int x2), (3, .long x_2), (5, .int 0)] [2, 4, 1, 0] rfl ?_
  exact b_X12_toldBy_11 hC hR hQ hr N _ _ _ _ h
theorem ct_X12_toldBy {l : Launch} {G : Gx} {a : Ax} {s : Sx} {N : Nat} {post : Int64 → Sx → Prop} (x1 : Int32) (x2 : Int32) (h : w_X12_toldBy N x1 x2 s post) : Met l yX12_toldBy (Cond.code yX12_toldBy cX12_toldBy 8 (some .long) :: gw) { frames := 0, cells := 0, slots := 0, locals := 0 } (va_Pc [.ref (adr G a 6 0), .int x1, .int x2] (fun U => FU G a s U)) (Ql G a post) 0 0 (bs_ G) := met_of (plainFor_of_name (by decide)) (Nat.le_of_ble_eq_true rfl) rfl (fun X hC hl hR hQ hr hG hn => by subst hG; exact b_X12_toldBy hC hR hQ hr hn s x1 x2 h)
theorem ca_X12_toldBy : Ca yX12_toldBy cX12_toldBy 8 (some .long) 2 := ⟨cd_X12_toldBy, ii_RX12, by decide, by decide, by decide +kernel⟩
def w_X12_told (N : Nat) (x1 : Int32) (x2 : Int32) (s : Sx) (post : Int64 → Sx → Prop) : Prop := w_X12_isWork N x1 s (fun r_2 s_1 => (r_2 = 0 → post ((-9223372036854775808)) s_1) ∧ (¬ (r_2 = 0) → w_X12_within N x2 ((-1)) 4 s_1 (fun r_5 s_4 => (r_5 = 0 → post ((-9223372036854775808)) s_4) ∧ (¬ (r_5 = 0) → w_X12_toldBy N x1 x2 s_4 (fun r_8 s_7 => post r_8 s_7)))))
set_option maxHeartbeats 4000000 in
theorem b_X12_told {X : Kx} {a : Ax} {N : Nat} {post : Int64 → Sx → Prop} (hC : Cx X cX12_told 3 RX12) (hR : X.R = { frames := 1, cells := 0, slots := 0, locals := 27 }) (hQ : X.Q = MQ X.below (Ql X.G a post) X.av X.s 0 0 (bs_ X.G)) (hr : X.meth.sig.returnType = (some .long)) (hn : X.meth.name = "told") (s : Sx) (x1 : Int32) (x2 : Int32) (h : w_X12_told N x1 x2 s post) : wk X a s 3 0 [(0, .ref (adr X.G a 6 0)), (1, .int x1), (2, .int x2)] [] 0 0 := by
  unfold w_X12_told at h
  refine k_aload_n hC (pc := 0) dX12_told_0 0 rfl ?_
  refine k_iload_n hC (pc := 1) dX12_told_1 1 rfl ?_
  refine k_ci (rn_V hC (pc := 2) (As := [.int x1]) (rest := []) ca_X12_isWork ml_RX12_274 im_X12_isWork se_X12_isWork (fx_in f6_0) (ob6_0 _ _ _ _ _) rfl rfl (ct_X12_isWork x1 h) (by rw [hR]; exact ⟨rfl, rfl, by decide, by decide⟩) rfl (Nat.le_of_ble_eq_true rfl) dX12_told_2 ⟨by rw [hR]; decide, by rw [hR]; decide⟩) (fun r_2 s_1 h => ?_)
  refine k_if_eq hC (pc := 5) 26 dX12_told_5 (by decide) (fun c_3 => ?_) (fun c_3 => ?_)
  · have h := h.1 c_3
    refine k_ldc2 hC (pc := 26) dX12_told_26 cn_RX12_184 ?_
    exact k_lret hC (pc := 29) hQ hr dX12_told_29 h
  · have h := h.2 c_3
    refine k_iload_n hC (pc := 8) dX12_told_8 2 rfl ?_
    refine k_iconst hC (pc := 9) (v := (-1)) dX12_told_9 ic_m1 ?_
    refine k_iconst hC (pc := 10) (v := 4) dX12_told_10 ic_4 ?_
    refine k_ci (rn_S hC (pc := 11) (As := [.int x2, .int ((-1)), .int 4]) (rest := []) ca_X12_within ml_RX12_186 sm_X12_within (ct_X12_within x2 ((-1)) 4 h) (by rw [hR]; exact ⟨rfl, rfl, by decide, by decide⟩) rfl (Nat.le_of_ble_eq_true rfl) dX12_told_11 ⟨by rw [hR]; decide, by rw [hR]; decide⟩) (fun r_5 s_4 h => ?_)
    refine k_if_eq hC (pc := 14) 26 dX12_told_14 (by decide) (fun c_6 => ?_) (fun c_6 => ?_)
    · have h := h.1 c_6
      refine k_ldc2 hC (pc := 26) dX12_told_26 cn_RX12_184 ?_
      exact k_lret hC (pc := 29) hQ hr dX12_told_29 h
    · have h := h.2 c_6
      refine k_aload_n hC (pc := 17) dX12_told_17 0 rfl ?_
      refine k_iload_n hC (pc := 18) dX12_told_18 1 rfl ?_
      refine k_iload_n hC (pc := 19) dX12_told_19 2 rfl ?_
      refine k_cl (rn_V hC (pc := 20) (As := [.int x1, .int x2]) (rest := []) ca_X12_toldBy ml_RX12_280 im_X12_toldBy se_X12_toldBy (fx_in f6_0) (ob6_0 _ _ _ _ _) rfl rfl (ct_X12_toldBy x1 x2 h) (by rw [hR]; exact ⟨rfl, rfl, by decide, by decide⟩) rfl (Nat.le_of_ble_eq_true rfl) dX12_told_20 ⟨by rw [hR]; decide, by rw [hR]; decide⟩) (fun r_8 s_7 h => ?_)
      refine k_goto hC (pc := 23) 29 dX12_told_23 (by decide) ?_
      exact k_lret hC (pc := 29) hQ hr dX12_told_29 h
theorem ct_X12_told {l : Launch} {G : Gx} {a : Ax} {s : Sx} {N : Nat} {post : Int64 → Sx → Prop} (x1 : Int32) (x2 : Int32) (h : w_X12_told N x1 x2 s post) : Met l yX12_told (Cond.code yX12_told cX12_told 3 (some .long) :: gw) { frames := 1, cells := 0, slots := 0, locals := 27 } (va_Pc [.ref (adr G a 6 0), .int x1, .int x2] (fun U => FU G a s U)) (Ql G a post) 0 0 (bs_ G) := met_of (plainFor_of_name (by decide)) (Nat.le_of_ble_eq_true rfl) rfl (fun X hC hl hR hQ hr hG hn => by subst hG; exact b_X12_told hC hR hQ hr hn s x1 x2 h)
theorem ca_X12_told : Ca yX12_told cX12_told 3 (some .long) 2 := ⟨cd_X12_told, ii_RX12, by decide, by decide, by decide +kernel⟩
def w_X12_grew_18 (N : Nat) (post : Int32 → Sx → Prop) : Nat → Sx → Int32 → Int32 → Int64 → Int32 → Prop
  | 0, _, _, _, _, _ => False
  | n + 1, s, x1, x2, y3, x5 => (5 ≤ x5 → post x2 s) ∧ (¬ (5 ≤ x5) → w_X12_toldBy N x1 x5 s (fun r_6 s_5 => w_X12_toldBy N x1 (x5 - 1) s_5 (fun r_8 s_7 => ∀ x_9 : Int64, x_9 = r_6 - r_8 → ((lg_cmp x_9 y3) ≤ 0 → ∀ x_11 : Int32, x_11 = x5 + 1 → w_X12_grew_18 N post n s_7 x1 x2 y3 x_11) ∧ (¬ ((lg_cmp x_9 y3) ≤ 0) → ∀ x_12 : Int32, x_12 = x5 + 1 → w_X12_grew_18 N post n s_7 x1 x5 x_9 x_12))))
def w_X12_grew (N : Nat) (x1 : Int32) (s : Sx) (post : Int32 → Sx → Prop) : Prop := w_X12_isWork N x1 s (fun r_2 s_1 => (¬ r_2 = 0 → w_X12_grew_18 N post N s_1 x1 ((-9)) 0 0) ∧ (¬ (¬ r_2 = 0) → post ((-1)) s_1))
set_option maxHeartbeats 4000000 in
theorem b_X12_grew_18 {X : Kx} {a : Ax} {N : Nat} {post : Int32 → Sx → Prop}  (hC : Cx X cX12_grew 8 RX12) (hR : X.R = { frames := 1, cells := 0, slots := 0, locals := 27 }) (hQ : X.Q = MQ X.below (Qi X.G a post) X.av X.s 0 0 (bs_ X.G)) (hr : X.meth.sig.returnType = (some .int))   : ∀ (n : Nat) (s : Sx) (x1 : Int32) (x2 : Int32) (y3 : Int64) (x5 : Int32), w_X12_grew_18 N post  n s x1 x2 y3 x5 → wk X a s 8 18 [(0, .ref (adr X.G a 6 0)), (1, .int x1), (2, .int x2), (3, .long y3), (5, .int x5)] [] 0 0 := by
  intro n
  induction n with
  | zero => intro s x1 x2 y3 x5 h; exact h.elim
  | succ n ih =>
    intro s x1 x2 y3 x5 h
    unfold w_X12_grew_18 at h
    refine k_iload hC (pc := 18) dX12_grew_18 4 rfl ?_
    refine k_iconst hC (pc := 20) (v := 5) dX12_grew_20 ic_5 ?_
    refine k_icmp_ge hC (pc := 21) 62 dX12_grew_21 (by decide) (fun c_4 => ?_) (fun c_4 => ?_)
    · have h := h.1 c_4
      refine k_iload_n hC (pc := 62) dX12_grew_62 2 rfl ?_
      exact k_iret hC (pc := 63) hQ hr dX12_grew_63 h
    · have h := h.2 c_4
      refine k_aload_n hC (pc := 24) dX12_grew_24 0 rfl ?_
      refine k_iload_n hC (pc := 25) dX12_grew_25 1 rfl ?_
      refine k_iload hC (pc := 26) dX12_grew_26 4 rfl ?_
      refine k_cl (rn_V hC (pc := 28) (As := [.int x1, .int x5]) (rest := []) ca_X12_toldBy ml_RX12_280 im_X12_toldBy se_X12_toldBy (fx_in f6_0) (ob6_0 _ _ _ _ _) rfl rfl (ct_X12_toldBy x1 x5 h) (by rw [hR]; exact ⟨rfl, rfl, by decide, by decide⟩) rfl (Nat.le_of_ble_eq_true rfl) dX12_grew_28 ⟨by rw [hR]; decide, by rw [hR]; decide⟩) (fun r_6 s_5 h => ?_)
      refine k_aload_n hC (pc := 31) dX12_grew_31 0 rfl ?_
      refine k_iload_n hC (pc := 32) dX12_grew_32 1 rfl ?_
      refine k_iload hC (pc := 33) dX12_grew_33 4 rfl ?_
      refine k_iconst hC (pc := 35) (v := 1) dX12_grew_35 ic_1 ?_
      refine k_isub hC (pc := 36) dX12_grew_36 ?_
      refine k_cl (rn_V hC (pc := 37) (As := [.int x1, .int (x5 - 1)]) (rest := [.long r_6]) ca_X12_toldBy ml_RX12_280 im_X12_toldBy se_X12_toldBy (fx_in f6_0) (ob6_0 _ _ _ _ _) rfl rfl (ct_X12_toldBy x1 (x5 - 1) h) (by rw [hR]; exact ⟨rfl, rfl, by decide, by decide⟩) rfl (Nat.le_of_ble_eq_true rfl) dX12_grew_37 ⟨by rw [hR]; decide, by rw [hR]; decide⟩) (fun r_8 s_7 h => ?_)
      refine k_lsub hC (pc := 40) dX12_grew_40 ?_
      refine k_topl (fun x_9 h_x_9 => ?_)
      have h := h x_9 h_x_9
      refine k_lstore hC (pc := 41) dX12_grew_41 [(6, .long x_9), (0, .ref (adr X.G a 6 0)), (1, .int x1), (2, .int x2), (3, .long y3), (5, .int x5)] (by decide) rfl ?_
      refine k_lload hC (pc := 43) dX12_grew_43 0 rfl ?_
      refine k_lload_n hC (pc := 45) dX12_grew_45 4 rfl ?_
      refine k_lcmp hC (pc := 46) dX12_grew_46 ?_
      refine k_if_le hC (pc := 47) 56 dX12_grew_47 (by decide) (fun c_10 => ?_) (fun c_10 => ?_)
      · have h := h.1 c_10
        obtain ⟨x_11, h_x_11⟩ : ∃ z : Int32, z = x5 + 1 := ⟨_, rfl⟩
        have h := h x_11 h_x_11
        refine k_iincw hC (pc := 56) dX12_grew_56 5 rfl ic_1 h_x_11.symm [(5, .int x_11), (6, .long x_9), (0, .ref (adr X.G a 6 0)), (1, .int x1), (2, .int x2), (3, .long y3)] (by decide) rfl ?_
        refine k_goto hC (pc := 59) 18 dX12_grew_59 (by decide) ?_
        refine k_sub [(0, .ref (adr X.G a 6 0)), (1, .int x1), (2, .int x2), (3, .long y3), (5, .int x_11)] [2, 3, 4, 5, 0] rfl ?_
        exact ih _ _ _ _ _ h
      · have h := h.2 c_10
        refine k_iload hC (pc := 50) dX12_grew_50 5 rfl ?_
        refine k_istore_n hC (pc := 52) dX12_grew_52 [(2, .int x5), (6, .long x_9), (0, .ref (adr X.G a 6 0)), (1, .int x1), (3, .long y3), (5, .int x5)] (by decide) rfl ?_
        refine k_lload hC (pc := 53) dX12_grew_53 1 rfl ?_
        refine k_lstore_n hC (pc := 55) dX12_grew_55 [(3, .long x_9), (2, .int x5), (6, .long x_9), (0, .ref (adr X.G a 6 0)), (1, .int x1), (5, .int x5)] (by decide) rfl ?_
        obtain ⟨x_12, h_x_12⟩ : ∃ z : Int32, z = x5 + 1 := ⟨_, rfl⟩
        have h := h x_12 h_x_12
        refine k_iincw hC (pc := 56) dX12_grew_56 5 rfl ic_1 h_x_12.symm [(5, .int x_12), (3, .long x_9), (2, .int x5), (6, .long x_9), (0, .ref (adr X.G a 6 0)), (1, .int x1)] (by decide) rfl ?_
        refine k_goto hC (pc := 59) 18 dX12_grew_59 (by decide) ?_
        refine k_sub [(0, .ref (adr X.G a 6 0)), (1, .int x1), (2, .int x5), (3, .long x_9), (5, .int x_12)] [4, 5, 2, 1, 0] rfl ?_
        exact ih _ _ _ _ _ h
set_option maxHeartbeats 4000000 in
theorem b_X12_grew {X : Kx} {a : Ax} {N : Nat} {post : Int32 → Sx → Prop} (hC : Cx X cX12_grew 8 RX12) (hR : X.R = { frames := 1, cells := 0, slots := 0, locals := 27 }) (hQ : X.Q = MQ X.below (Qi X.G a post) X.av X.s 0 0 (bs_ X.G)) (hr : X.meth.sig.returnType = (some .int)) (hn : X.meth.name = "grew") (s : Sx) (x1 : Int32) (h : w_X12_grew N x1 s post) : wk X a s 8 0 [(0, .ref (adr X.G a 6 0)), (1, .int x1)] [] 0 0 := by
  unfold w_X12_grew at h
  refine k_aload_n hC (pc := 0) dX12_grew_0 0 rfl ?_
  refine k_iload_n hC (pc := 1) dX12_grew_1 1 rfl ?_
  refine k_ci (rn_V hC (pc := 2) (As := [.int x1]) (rest := []) ca_X12_isWork ml_RX12_274 im_X12_isWork se_X12_isWork (fx_in f6_0) (ob6_0 _ _ _ _ _) rfl rfl (ct_X12_isWork x1 h) (by rw [hR]; exact ⟨rfl, rfl, by decide, by decide⟩) rfl (Nat.le_of_ble_eq_true rfl) dX12_grew_2 ⟨by rw [hR]; decide, by rw [hR]; decide⟩) (fun r_2 s_1 h => ?_)
  refine k_if_ne hC (pc := 5) 10 dX12_grew_5 (by decide) (fun c_3 => ?_) (fun c_3 => ?_)
  · have h := h.1 c_3
    refine k_bipush hC (pc := 10) (v := (-9)) dX12_grew_10 bp_m9 ?_
    refine k_istore_n hC (pc := 12) dX12_grew_12 [(2, .int ((-9))), (0, .ref (adr X.G a 6 0)), (1, .int x1)] (by decide) rfl ?_
    refine k_lconst hC (pc := 13) (v := 0) dX12_grew_13 rfl ?_
    refine k_lstore_n hC (pc := 14) dX12_grew_14 [(3, .long 0), (2, .int ((-9))), (0, .ref (adr X.G a 6 0)), (1, .int x1)] (by decide) rfl ?_
    refine k_iconst hC (pc := 15) (v := 0) dX12_grew_15 ic_0 ?_
    refine k_istore hC (pc := 16) dX12_grew_16 [(5, .int 0), (3, .long 0), (2, .int ((-9))), (0, .ref (adr X.G a 6 0)), (1, .int x1)] (by decide) rfl ?_
    refine k_sub [(0, .ref (adr X.G a 6 0)), (1, .int x1), (2, .int ((-9))), (3, .long 0), (5, .int 0)] [3, 4, 2, 1, 0] rfl ?_
    exact b_X12_grew_18 hC hR hQ hr N _ _ _ _ _ h
  · have h := h.2 c_3
    refine k_iconst hC (pc := 8) (v := (-1)) dX12_grew_8 ic_m1 ?_
    exact k_iret hC (pc := 9) hQ hr dX12_grew_9 h
theorem ct_X12_grew {l : Launch} {G : Gx} {a : Ax} {s : Sx} {N : Nat} {post : Int32 → Sx → Prop} (x1 : Int32) (h : w_X12_grew N x1 s post) : Met l yX12_grew (Cond.code yX12_grew cX12_grew 8 (some .int) :: gw) { frames := 1, cells := 0, slots := 0, locals := 27 } (va_Pc [.ref (adr G a 6 0), .int x1] (fun U => FU G a s U)) (Qi G a post) 0 0 (bs_ G) := met_of (plainFor_of_name (by decide)) (Nat.le_of_ble_eq_true rfl) rfl (fun X hC hl hR hQ hr hG hn => by subst hG; exact b_X12_grew hC hR hQ hr hn s x1 h)
theorem ca_X12_grew : Ca yX12_grew cX12_grew 8 (some .int) 1 := ⟨cd_X12_grew, ii_RX12, by decide, by decide, by decide +kernel⟩
def w_X12_stand (N : Nat) (x1 : Int32) (x2 : Int32) (x3 : Int32) (x4 : Int32) (s : Sx) (post : Int32 → Sx → Prop) : Prop := w_X12_within N x1 0 3 s (fun r_2 s_1 => (r_2 = 0 → post ((-2)) s_1) ∧ (¬ (r_2 = 0) → w_X12_within N x2 0 2 s_1 (fun r_5 s_4 => (r_5 = 0 → post ((-2)) s_4) ∧ (¬ (r_5 = 0) → w_X12_within N x3 1 99999 s_4 (fun r_8 s_7 => (r_8 = 0 → post ((-2)) s_7) ∧ (¬ (r_8 = 0) → w_X12_within N x4 0 60 s_7 (fun r_11 s_10 => (¬ r_11 = 0 → (¬ (s_10.1 6 0 50) = 12 → vp_in (s_10.1 6 0 50) 12 ∧ ∀ s_15, s_15 = setI s_10 5 51 (s_10.1 6 0 50).toNatClampNeg x1 → vp_in (s_15.1 6 0 50) 12 ∧ ∀ s_17, s_17 = setI s_15 5 52 (s_15.1 6 0 50).toNatClampNeg x2 → vp_in (s_17.1 6 0 50) 12 ∧ ∀ s_19, s_19 = setI s_17 5 53 (s_17.1 6 0 50).toNatClampNeg x3 → vp_in (s_19.1 6 0 50) 12 ∧ ∀ s_21, s_21 = setI s_19 5 54 (s_19.1 6 0 50).toNatClampNeg x4 → ∀ s_22, s_22 = setI s_21 6 0 50 ((s_21.1 6 0 50) + 1) → post ((s_22.1 6 0 50) - 1) s_22) ∧ (¬ (¬ (s_10.1 6 0 50) = 12) → post ((-4)) s_10)) ∧ (¬ (¬ r_11 = 0) → post ((-2)) s_10))))))))
set_option maxHeartbeats 4000000 in
theorem b_X12_stand {X : Kx} {a : Ax} {N : Nat} {post : Int32 → Sx → Prop} (hC : Cx X cX12_stand 5 RX12) (hR : X.R = { frames := 1, cells := 0, slots := 0, locals := 22 }) (hQ : X.Q = MQ X.below (Qi X.G a post) X.av X.s 0 0 (bs_ X.G)) (hr : X.meth.sig.returnType = (some .int)) (hn : X.meth.name = "stand") (s : Sx) (x1 : Int32) (x2 : Int32) (x3 : Int32) (x4 : Int32) (h : w_X12_stand N x1 x2 x3 x4 s post) : wk X a s 5 0 [(0, .ref (adr X.G a 6 0)), (1, .int x1), (2, .int x2), (3, .int x3), (4, .int x4)] [] 0 0 := by
  unfold w_X12_stand at h
  refine k_iload_n hC (pc := 0) dX12_stand_0 1 rfl ?_
  refine k_iconst hC (pc := 1) (v := 0) dX12_stand_1 ic_0 ?_
  refine k_iconst hC (pc := 2) (v := 3) dX12_stand_2 ic_3 ?_
  refine k_ci (rn_S hC (pc := 3) (As := [.int x1, .int 0, .int 3]) (rest := []) ca_X12_within ml_RX12_186 sm_X12_within (ct_X12_within x1 0 3 h) (by rw [hR]; exact ⟨rfl, rfl, by decide, by decide⟩) rfl (Nat.le_of_ble_eq_true rfl) dX12_stand_3 ⟨by rw [hR]; decide, by rw [hR]; decide⟩) (fun r_2 s_1 h => ?_)
  refine k_if_eq hC (pc := 6) 40 dX12_stand_6 (by decide) (fun c_3 => ?_) (fun c_3 => ?_)
  · have h := h.1 c_3
    refine k_bipush hC (pc := 40) (v := (-2)) dX12_stand_40 bp_m2 ?_
    exact k_iret hC (pc := 42) hQ hr dX12_stand_42 h
  · have h := h.2 c_3
    refine k_iload_n hC (pc := 9) dX12_stand_9 2 rfl ?_
    refine k_iconst hC (pc := 10) (v := 0) dX12_stand_10 ic_0 ?_
    refine k_iconst hC (pc := 11) (v := 2) dX12_stand_11 ic_2 ?_
    refine k_ci (rn_S hC (pc := 12) (As := [.int x2, .int 0, .int 2]) (rest := []) ca_X12_within ml_RX12_186 sm_X12_within (ct_X12_within x2 0 2 h) (by rw [hR]; exact ⟨rfl, rfl, by decide, by decide⟩) rfl (Nat.le_of_ble_eq_true rfl) dX12_stand_12 ⟨by rw [hR]; decide, by rw [hR]; decide⟩) (fun r_5 s_4 h => ?_)
    refine k_if_eq hC (pc := 15) 40 dX12_stand_15 (by decide) (fun c_6 => ?_) (fun c_6 => ?_)
    · have h := h.1 c_6
      refine k_bipush hC (pc := 40) (v := (-2)) dX12_stand_40 bp_m2 ?_
      exact k_iret hC (pc := 42) hQ hr dX12_stand_42 h
    · have h := h.2 c_6
      refine k_iload_n hC (pc := 18) dX12_stand_18 3 rfl ?_
      refine k_iconst hC (pc := 19) (v := 1) dX12_stand_19 ic_1 ?_
      refine k_ldcw hC (pc := 20) dX12_stand_20 cn_RX12_284 ?_
      refine k_ci (rn_S hC (pc := 23) (As := [.int x3, .int 1, .int 99999]) (rest := []) ca_X12_within ml_RX12_186 sm_X12_within (ct_X12_within x3 1 99999 h) (by rw [hR]; exact ⟨rfl, rfl, by decide, by decide⟩) rfl (Nat.le_of_ble_eq_true rfl) dX12_stand_23 ⟨by rw [hR]; decide, by rw [hR]; decide⟩) (fun r_8 s_7 h => ?_)
      refine k_if_eq hC (pc := 26) 40 dX12_stand_26 (by decide) (fun c_9 => ?_) (fun c_9 => ?_)
      · have h := h.1 c_9
        refine k_bipush hC (pc := 40) (v := (-2)) dX12_stand_40 bp_m2 ?_
        exact k_iret hC (pc := 42) hQ hr dX12_stand_42 h
      · have h := h.2 c_9
        refine k_iload hC (pc := 29) dX12_stand_29 4 rfl ?_
        refine k_iconst hC (pc := 31) (v := 0) dX12_stand_31 ic_0 ?_
        refine k_bipush hC (pc := 32) (v := 60) dX12_stand_32 bp_60 ?_
        refine k_ci (rn_S hC (pc := 34) (As := [.int x4, .int 0, .int 60]) (rest := []) ca_X12_within ml_RX12_186 sm_X12_within (ct_X12_within x4 0 60 h) (by rw [hR]; exact ⟨rfl, rfl, by decide, by decide⟩) rfl (Nat.le_of_ble_eq_true rfl) dX12_stand_34 ⟨by rw [hR]; decide, by rw [hR]; decide⟩) (fun r_11 s_10 h => ?_)
        refine k_if_ne hC (pc := 37) 43 dX12_stand_37 (by decide) (fun c_12 => ?_) (fun c_12 => ?_)
        · have h := h.1 c_12
          refine k_aload_n hC (pc := 43) dX12_stand_43 0 rfl ?_
          refine gf_X12_50 hC (pc := 44)  fl_RX12_285 dX12_stand_44 ?_
          refine k_bipush hC (pc := 47) (v := 12) dX12_stand_47 bp_12 ?_
          refine k_icmp_ne hC (pc := 49) 55 dX12_stand_49 (by decide) (fun c_13 => ?_) (fun c_13 => ?_)
          · have h := h.1 c_13
            refine k_aload_n hC (pc := 55) dX12_stand_55 0 rfl ?_
            refine gf_X12_51 hC (pc := 56)  fl_RX12_125 dX12_stand_56 ?_
            refine k_aload_n hC (pc := 59) dX12_stand_59 0 rfl ?_
            refine gf_X12_50 hC (pc := 60)  fl_RX12_285 dX12_stand_60 ?_
            refine k_iload_n hC (pc := 63) dX12_stand_63 1 rfl ?_
            obtain ⟨c_14, h⟩ := h
            refine r_iast hC (pc := 64) ra5_51 c_14 dX12_stand_64 (fun s_15 h_s_15 => ?_)
            have h := h s_15 h_s_15
            refine k_aload_n hC (pc := 65) dX12_stand_65 0 rfl ?_
            refine gf_X12_52 hC (pc := 66)  fl_RX12_128 dX12_stand_66 ?_
            refine k_aload_n hC (pc := 69) dX12_stand_69 0 rfl ?_
            refine gf_X12_50 hC (pc := 70)  fl_RX12_285 dX12_stand_70 ?_
            refine k_iload_n hC (pc := 73) dX12_stand_73 2 rfl ?_
            obtain ⟨c_16, h⟩ := h
            refine r_iast hC (pc := 74) ra5_52 c_16 dX12_stand_74 (fun s_17 h_s_17 => ?_)
            have h := h s_17 h_s_17
            refine k_aload_n hC (pc := 75) dX12_stand_75 0 rfl ?_
            refine gf_X12_53 hC (pc := 76)  fl_RX12_131 dX12_stand_76 ?_
            refine k_aload_n hC (pc := 79) dX12_stand_79 0 rfl ?_
            refine gf_X12_50 hC (pc := 80)  fl_RX12_285 dX12_stand_80 ?_
            refine k_iload_n hC (pc := 83) dX12_stand_83 3 rfl ?_
            obtain ⟨c_18, h⟩ := h
            refine r_iast hC (pc := 84) ra5_53 c_18 dX12_stand_84 (fun s_19 h_s_19 => ?_)
            have h := h s_19 h_s_19
            refine k_aload_n hC (pc := 85) dX12_stand_85 0 rfl ?_
            refine gf_X12_54 hC (pc := 86)  fl_RX12_134 dX12_stand_86 ?_
            refine k_aload_n hC (pc := 89) dX12_stand_89 0 rfl ?_
            refine gf_X12_50 hC (pc := 90)  fl_RX12_285 dX12_stand_90 ?_
            refine k_iload hC (pc := 93) dX12_stand_93 4 rfl ?_
            obtain ⟨c_20, h⟩ := h
            refine r_iast hC (pc := 95) ra5_54 c_20 dX12_stand_95 (fun s_21 h_s_21 => ?_)
            have h := h s_21 h_s_21
            refine k_aload_n hC (pc := 96) dX12_stand_96 0 rfl ?_
            refine k_dup hC (pc := 97) dX12_stand_97 rfl ?_
            refine gf_X12_50 hC (pc := 98)  fl_RX12_285 dX12_stand_98 ?_
            refine k_iconst hC (pc := 101) (v := 1) dX12_stand_101 ic_1 ?_
            refine k_iadd hC (pc := 102) dX12_stand_102 ?_
            refine pf_X12_50 hC (pc := 103)  fl_RX12_285 dX12_stand_103 (fun s_22 h_s_22 => ?_)
            have h := h s_22 h_s_22
            refine k_aload_n hC (pc := 106) dX12_stand_106 0 rfl ?_
            refine gf_X12_50 hC (pc := 107)  fl_RX12_285 dX12_stand_107 ?_
            refine k_iconst hC (pc := 110) (v := 1) dX12_stand_110 ic_1 ?_
            refine k_isub hC (pc := 111) dX12_stand_111 ?_
            exact k_iret hC (pc := 112) hQ hr dX12_stand_112 h
          · have h := h.2 c_13
            refine k_bipush hC (pc := 52) (v := (-4)) dX12_stand_52 bp_m4 ?_
            exact k_iret hC (pc := 54) hQ hr dX12_stand_54 h
        · have h := h.2 c_12
          refine k_bipush hC (pc := 40) (v := (-2)) dX12_stand_40 bp_m2 ?_
          exact k_iret hC (pc := 42) hQ hr dX12_stand_42 h
theorem ct_X12_stand {l : Launch} {G : Gx} {a : Ax} {s : Sx} {N : Nat} {post : Int32 → Sx → Prop} (x1 : Int32) (x2 : Int32) (x3 : Int32) (x4 : Int32) (h : w_X12_stand N x1 x2 x3 x4 s post) : Met l yX12_stand (Cond.code yX12_stand cX12_stand 5 (some .int) :: gw) { frames := 1, cells := 0, slots := 0, locals := 22 } (va_Pc [.ref (adr G a 6 0), .int x1, .int x2, .int x3, .int x4] (fun U => FU G a s U)) (Qi G a post) 0 0 (bs_ G) := met_of (plainFor_of_name (by decide)) (Nat.le_of_ble_eq_true rfl) rfl (fun X hC hl hR hQ hr hG hn => by subst hG; exact b_X12_stand hC hR hQ hr hn s x1 x2 x3 x4 h)
theorem ca_X12_stand : Ca yX12_stand cX12_stand 5 (some .int) 4 := ⟨cd_X12_stand, ii_RX12, by decide, by decide, by decide +kernel⟩
def w_X12_liveOf_82 (N : Nat) (post : Int32 → Sx → Prop) (K49 : Sx → Int32 → Int32 → Int32 → Int32 → Int32 → Prop) (s : Sx) (x1 : Int32) (x2 : Int32) (x4 : Int32) (x5 : Int32) (z0 : Int32) (z2 : Int32) : Prop := vp_in z2 24 ∧ ∀ x_14 : Int32, x_14 = (z0 * (s.1 5 49 z2.toNatClampNeg)) / 100 → ∀ x_15 : Int32, x_15 = x5 + 1 → K49 s x1 x2 x_14 x4 x_15
def w_X12_liveOf_49 (N : Nat) (post : Int32 → Sx → Prop) : Nat → Sx → Int32 → Int32 → Int32 → Int32 → Int32 → Prop
  | 0, _, _, _, _, _, _ => False
  | n + 1, s, x1, x2, x3, x4, x5 => (x2 < x5 → post x3 s) ∧ (¬ (x2 < x5) → vp_in x1 12 ∧ (¬ x5 = ((s.1 5 54 x1.toNatClampNeg) + 1) → w_X12_liveOf_82 N post (w_X12_liveOf_49 N post n) s x1 x2 x4 x5 x3 (x4 + 1)) ∧ (¬ (¬ x5 = ((s.1 5 54 x1.toNatClampNeg) + 1)) → w_X12_liveOf_82 N post (w_X12_liveOf_49 N post n) s x1 x2 x4 x5 x3 x4))
def w_X12_liveOf (N : Nat) (x1 : Int32) (x2 : Int32) (s : Sx) (post : Int32 → Sx → Prop) : Prop := vp_in x1 12 ∧ ((s.1 5 54 x1.toNatClampNeg) ≤ x2 → vp_in x1 12 ∧ ∀ x_4 : Int32, x_4 = s.1 5 53 x1.toNatClampNeg → vp_in x1 12 ∧ vp_in x1 12 ∧ ∀ x_7 : Int32, x_7 = (6 * (s.1 5 51 x1.toNatClampNeg)) + (2 * (s.1 5 52 x1.toNatClampNeg)) → vp_in x1 12 ∧ ∀ x_9 : Int32, x_9 = (s.1 5 54 x1.toNatClampNeg) + 1 → w_X12_liveOf_49 N post N s x1 x2 x_4 x_7 x_9) ∧ (¬ ((s.1 5 54 x1.toNatClampNeg) ≤ x2) → post 0 s)
set_option maxHeartbeats 4000000 in
theorem b_X12_liveOf_82 {X : Kx} {a : Ax} {N : Nat} {post : Int32 → Sx → Prop} {K49 : Sx → Int32 → Int32 → Int32 → Int32 → Int32 → Prop}  (hC : Cx X cX12_liveOf 6 RX12) (hR : X.R = { frames := 0, cells := 0, slots := 0, locals := 0 }) (hQ : X.Q = MQ X.below (Qi X.G a post) X.av X.s 0 0 (bs_ X.G)) (hr : X.meth.sig.returnType = (some .int))  (hK49 : ∀ (s : Sx) (x1 : Int32) (x2 : Int32) (x3 : Int32) (x4 : Int32) (x5 : Int32), K49 s x1 x2 x3 x4 x5 → wk X a s 6 49 [(0, .ref (adr X.G a 6 0)), (1, .int x1), (2, .int x2), (3, .int x3), (4, .int x4), (5, .int x5)] [] 0 0) (s : Sx) (x1 : Int32) (x2 : Int32) (x4 : Int32) (x5 : Int32) (z0 : Int32) (z2 : Int32) (h : w_X12_liveOf_82 N post K49 s x1 x2 x4 x5 z0 z2) : wk X a s 6 82 [(0, .ref (adr X.G a 6 0)), (1, .int x1), (2, .int x2), (4, .int x4), (5, .int x5)] [.int z2, .ref (adr X.G a 5 49), .int z0] 0 0 := by
  unfold w_X12_liveOf_82 at h
  obtain ⟨c_13, h⟩ := h
  refine r_iald hC (pc := 82) ra5_49 c_13 dX12_liveOf_82 ?_
  refine k_imul hC (pc := 83) dX12_liveOf_83 ?_
  refine k_bipush hC (pc := 84) (v := 100) dX12_liveOf_84 bp_100 ?_
  refine k_idiv hC (pc := 86) dX12_liveOf_86 (by decide) ?_
  refine k_topi (fun x_14 h_x_14 => ?_)
  have h := h x_14 h_x_14
  refine k_istore_n hC (pc := 87) dX12_liveOf_87 [(3, .int x_14), (0, .ref (adr X.G a 6 0)), (1, .int x1), (2, .int x2), (4, .int x4), (5, .int x5)] (by decide) rfl ?_
  obtain ⟨x_15, h_x_15⟩ : ∃ z : Int32, z = x5 + 1 := ⟨_, rfl⟩
  have h := h x_15 h_x_15
  refine k_iincw hC (pc := 88) dX12_liveOf_88 5 rfl ic_1 h_x_15.symm [(5, .int x_15), (3, .int x_14), (0, .ref (adr X.G a 6 0)), (1, .int x1), (2, .int x2), (4, .int x4)] (by decide) rfl ?_
  refine k_goto hC (pc := 91) 49 dX12_liveOf_91 (by decide) ?_
  refine k_sub [(0, .ref (adr X.G a 6 0)), (1, .int x1), (2, .int x2), (3, .int x_14), (4, .int x4), (5, .int x_15)] [2, 3, 4, 1, 5, 0] rfl ?_
  exact hK49 _ _ _ _ _ _ h
set_option maxHeartbeats 4000000 in
theorem b_X12_liveOf_49 {X : Kx} {a : Ax} {N : Nat} {post : Int32 → Sx → Prop}  (hC : Cx X cX12_liveOf 6 RX12) (hR : X.R = { frames := 0, cells := 0, slots := 0, locals := 0 }) (hQ : X.Q = MQ X.below (Qi X.G a post) X.av X.s 0 0 (bs_ X.G)) (hr : X.meth.sig.returnType = (some .int))   : ∀ (n : Nat) (s : Sx) (x1 : Int32) (x2 : Int32) (x3 : Int32) (x4 : Int32) (x5 : Int32), w_X12_liveOf_49 N post  n s x1 x2 x3 x4 x5 → wk X a s 6 49 [(0, .ref (adr X.G a 6 0)), (1, .int x1), (2, .int x2), (3, .int x3), (4, .int x4), (5, .int x5)] [] 0 0 := by
  intro n
  induction n with
  | zero => intro s x1 x2 x3 x4 x5 h; exact h.elim
  | succ n ih =>
    intro s x1 x2 x3 x4 x5 h
    unfold w_X12_liveOf_49 at h
    refine k_iload hC (pc := 49) dX12_liveOf_49 5 rfl ?_
    refine k_iload_n hC (pc := 51) dX12_liveOf_51 2 rfl ?_
    refine k_icmp_gt hC (pc := 52) 94 dX12_liveOf_52 (by decide) (fun c_10 => ?_) (fun c_10 => ?_)
    · have h := h.1 c_10
      refine k_iload_n hC (pc := 94) dX12_liveOf_94 3 rfl ?_
      exact k_iret hC (pc := 95) hQ hr dX12_liveOf_95 h
    · have h := h.2 c_10
      refine k_iload_n hC (pc := 55) dX12_liveOf_55 3 rfl ?_
      refine k_aload_n hC (pc := 56) dX12_liveOf_56 0 rfl ?_
      refine gf_X12_49 hC (pc := 57)  fl_RX12_122 dX12_liveOf_57 ?_
      refine k_iload hC (pc := 60) dX12_liveOf_60 5 rfl ?_
      refine k_aload_n hC (pc := 62) dX12_liveOf_62 0 rfl ?_
      refine gf_X12_54 hC (pc := 63)  fl_RX12_134 dX12_liveOf_63 ?_
      refine k_iload_n hC (pc := 66) dX12_liveOf_66 1 rfl ?_
      obtain ⟨c_11, h⟩ := h
      refine r_iald hC (pc := 67) ra5_54 c_11 dX12_liveOf_67 ?_
      refine k_iconst hC (pc := 68) (v := 1) dX12_liveOf_68 ic_1 ?_
      refine k_iadd hC (pc := 69) dX12_liveOf_69 ?_
      refine k_icmp_ne hC (pc := 70) 78 dX12_liveOf_70 (by decide) (fun c_12 => ?_) (fun c_12 => ?_)
      · have h := h.1 c_12
        refine k_iload hC (pc := 78) dX12_liveOf_78 4 rfl ?_
        refine k_iconst hC (pc := 80) (v := 1) dX12_liveOf_80 ic_1 ?_
        refine k_iadd hC (pc := 81) dX12_liveOf_81 ?_
        refine k_sub [(0, .ref (adr X.G a 6 0)), (1, .int x1), (2, .int x2), (4, .int x4), (5, .int x5)] [0, 1, 2, 4, 5] rfl ?_
        exact b_X12_liveOf_82 hC hR hQ hr ih _ _ _ _ _ _ _ h
      · have h := h.2 c_12
        refine k_iload hC (pc := 73) dX12_liveOf_73 4 rfl ?_
        refine k_goto hC (pc := 75) 82 dX12_liveOf_75 (by decide) ?_
        refine k_sub [(0, .ref (adr X.G a 6 0)), (1, .int x1), (2, .int x2), (4, .int x4), (5, .int x5)] [0, 1, 2, 4, 5] rfl ?_
        exact b_X12_liveOf_82 hC hR hQ hr ih _ _ _ _ _ _ _ h
set_option maxHeartbeats 4000000 in
theorem b_X12_liveOf {X : Kx} {a : Ax} {N : Nat} {post : Int32 → Sx → Prop} (hC : Cx X cX12_liveOf 6 RX12) (hR : X.R = { frames := 0, cells := 0, slots := 0, locals := 0 }) (hQ : X.Q = MQ X.below (Qi X.G a post) X.av X.s 0 0 (bs_ X.G)) (hr : X.meth.sig.returnType = (some .int)) (hn : X.meth.name = "liveOf") (s : Sx) (x1 : Int32) (x2 : Int32) (h : w_X12_liveOf N x1 x2 s post) : wk X a s 6 0 [(0, .ref (adr X.G a 6 0)), (1, .int x1), (2, .int x2)] [] 0 0 := by
  unfold w_X12_liveOf at h
  refine k_iload_n hC (pc := 0) dX12_liveOf_0 2 rfl ?_
  refine k_aload_n hC (pc := 1) dX12_liveOf_1 0 rfl ?_
  refine gf_X12_54 hC (pc := 2)  fl_RX12_134 dX12_liveOf_2 ?_
  refine k_iload_n hC (pc := 5) dX12_liveOf_5 1 rfl ?_
  obtain ⟨c_1, h⟩ := h
  refine r_iald hC (pc := 6) ra5_54 c_1 dX12_liveOf_6 ?_
  refine k_icmp_ge hC (pc := 7) 12 dX12_liveOf_7 (by decide) (fun c_2 => ?_) (fun c_2 => ?_)
  · have h := h.1 c_2
    refine k_aload_n hC (pc := 12) dX12_liveOf_12 0 rfl ?_
    refine gf_X12_53 hC (pc := 13)  fl_RX12_131 dX12_liveOf_13 ?_
    refine k_iload_n hC (pc := 16) dX12_liveOf_16 1 rfl ?_
    obtain ⟨c_3, h⟩ := h
    refine r_iald hC (pc := 17) ra5_53 c_3 dX12_liveOf_17 ?_
    refine k_topi (fun x_4 h_x_4 => ?_)
    have h := h x_4 h_x_4
    refine k_istore_n hC (pc := 18) dX12_liveOf_18 [(3, .int x_4), (0, .ref (adr X.G a 6 0)), (1, .int x1), (2, .int x2)] (by decide) rfl ?_
    refine k_bipush hC (pc := 19) (v := 6) dX12_liveOf_19 bp_6 ?_
    refine k_aload_n hC (pc := 21) dX12_liveOf_21 1 rfl ?_
    refine gf_X12_51 hC (pc := 22)  fl_RX12_125 dX12_liveOf_22 ?_
    refine k_iload_n hC (pc := 25) dX12_liveOf_25 2 rfl ?_
    obtain ⟨c_5, h⟩ := h
    refine r_iald hC (pc := 26) ra5_51 c_5 dX12_liveOf_26 ?_
    refine k_imul hC (pc := 27) dX12_liveOf_27 ?_
    refine k_iconst hC (pc := 28) (v := 2) dX12_liveOf_28 ic_2 ?_
    refine k_aload_n hC (pc := 29) dX12_liveOf_29 1 rfl ?_
    refine gf_X12_52 hC (pc := 30)  fl_RX12_128 dX12_liveOf_30 ?_
    refine k_iload_n hC (pc := 33) dX12_liveOf_33 2 rfl ?_
    obtain ⟨c_6, h⟩ := h
    refine r_iald hC (pc := 34) ra5_52 c_6 dX12_liveOf_34 ?_
    refine k_imul hC (pc := 35) dX12_liveOf_35 ?_
    refine k_iadd hC (pc := 36) dX12_liveOf_36 ?_
    refine k_topi (fun x_7 h_x_7 => ?_)
    have h := h x_7 h_x_7
    refine k_istore hC (pc := 37) dX12_liveOf_37 [(4, .int x_7), (3, .int x_4), (0, .ref (adr X.G a 6 0)), (1, .int x1), (2, .int x2)] (by decide) rfl ?_
    refine k_aload_n hC (pc := 39) dX12_liveOf_39 2 rfl ?_
    refine gf_X12_54 hC (pc := 40)  fl_RX12_134 dX12_liveOf_40 ?_
    refine k_iload_n hC (pc := 43) dX12_liveOf_43 3 rfl ?_
    obtain ⟨c_8, h⟩ := h
    refine r_iald hC (pc := 44) ra5_54 c_8 dX12_liveOf_44 ?_
    refine k_iconst hC (pc := 45) (v := 1) dX12_liveOf_45 ic_1 ?_
    refine k_iadd hC (pc := 46) dX12_liveOf_46 ?_
    refine k_topi (fun x_9 h_x_9 => ?_)
    have h := h x_9 h_x_9
    refine k_istore hC (pc := 47) dX12_liveOf_47 [(5, .int x_9), (4, .int x_7), (3, .int x_4), (0, .ref (adr X.G a 6 0)), (1, .int x1), (2, .int x2)] (by decide) rfl ?_
    refine k_sub [(0, .ref (adr X.G a 6 0)), (1, .int x1), (2, .int x2), (3, .int x_4), (4, .int x_7), (5, .int x_9)] [3, 4, 5, 2, 1, 0] rfl ?_
    exact b_X12_liveOf_49 hC hR hQ hr N _ _ _ _ _ _ h
  · have h := h.2 c_2
    refine k_iconst hC (pc := 10) (v := 0) dX12_liveOf_10 ic_0 ?_
    exact k_iret hC (pc := 11) hQ hr dX12_liveOf_11 h
theorem ct_X12_liveOf {l : Launch} {G : Gx} {a : Ax} {s : Sx} {N : Nat} {post : Int32 → Sx → Prop} (x1 : Int32) (x2 : Int32) (h : w_X12_liveOf N x1 x2 s post) : Met l yX12_liveOf (Cond.code yX12_liveOf cX12_liveOf 6 (some .int) :: gw) { frames := 0, cells := 0, slots := 0, locals := 0 } (va_Pc [.ref (adr G a 6 0), .int x1, .int x2] (fun U => FU G a s U)) (Qi G a post) 0 0 (bs_ G) := met_of (plainFor_of_name (by decide)) (Nat.le_of_ble_eq_true rfl) rfl (fun X hC hl hR hQ hr hG hn => by subst hG; exact b_X12_liveOf hC hR hQ hr hn s x1 x2 h)
theorem ca_X12_liveOf : Ca yX12_liveOf cX12_liveOf 6 (some .int) 2 := ⟨cd_X12_liveOf, ii_RX12, by decide, by decide, by decide +kernel⟩
def w_X12_live (N : Nat) (x1 : Int32) (x2 : Int32) (s : Sx) (post : Int32 → Sx → Prop) : Prop := (x1 < 0 → post ((-1)) s) ∧ (¬ (x1 < 0) → (x1 < (s.1 6 0 50) → w_X12_within N x2 0 99 s (fun r_4 s_3 => (r_4 = 0 → post ((-2)) s_3) ∧ (¬ (r_4 = 0) → w_X12_liveOf N x1 x2 s_3 (fun r_7 s_6 => post r_7 s_6)))) ∧ (¬ (x1 < (s.1 6 0 50)) → post ((-1)) s))
set_option maxHeartbeats 4000000 in
theorem b_X12_live {X : Kx} {a : Ax} {N : Nat} {post : Int32 → Sx → Prop} (hC : Cx X cX12_live 3 RX12) (hR : X.R = { frames := 1, cells := 0, slots := 0, locals := 25 }) (hQ : X.Q = MQ X.below (Qi X.G a post) X.av X.s 0 0 (bs_ X.G)) (hr : X.meth.sig.returnType = (some .int)) (hn : X.meth.name = "live") (s : Sx) (x1 : Int32) (x2 : Int32) (h : w_X12_live N x1 x2 s post) : wk X a s 3 0 [(0, .ref (adr X.G a 6 0)), (1, .int x1), (2, .int x2)] [] 0 0 := by
  unfold w_X12_live at h
  refine k_iload_n hC (pc := 0) dX12_live_0 1 rfl ?_
  refine k_if_lt hC (pc := 1) 12 dX12_live_1 (by decide) (fun c_1 => ?_) (fun c_1 => ?_)
  · have h := h.1 c_1
    refine k_iconst hC (pc := 12) (v := (-1)) dX12_live_12 ic_m1 ?_
    exact k_iret hC (pc := 13) hQ hr dX12_live_13 h
  · have h := h.2 c_1
    refine k_iload_n hC (pc := 4) dX12_live_4 1 rfl ?_
    refine k_aload_n hC (pc := 5) dX12_live_5 0 rfl ?_
    refine gf_X12_50 hC (pc := 6)  fl_RX12_285 dX12_live_6 ?_
    refine k_icmp_lt hC (pc := 9) 14 dX12_live_9 (by decide) (fun c_2 => ?_) (fun c_2 => ?_)
    · have h := h.1 c_2
      refine k_iload_n hC (pc := 14) dX12_live_14 2 rfl ?_
      refine k_iconst hC (pc := 15) (v := 0) dX12_live_15 ic_0 ?_
      refine k_bipush hC (pc := 16) (v := 99) dX12_live_16 bp_99 ?_
      refine k_ci (rn_S hC (pc := 18) (As := [.int x2, .int 0, .int 99]) (rest := []) ca_X12_within ml_RX12_186 sm_X12_within (ct_X12_within x2 0 99 h) (by rw [hR]; exact ⟨rfl, rfl, by decide, by decide⟩) rfl (Nat.le_of_ble_eq_true rfl) dX12_live_18 ⟨by rw [hR]; decide, by rw [hR]; decide⟩) (fun r_4 s_3 h => ?_)
      refine k_if_eq hC (pc := 21) 33 dX12_live_21 (by decide) (fun c_5 => ?_) (fun c_5 => ?_)
      · have h := h.1 c_5
        refine k_bipush hC (pc := 33) (v := (-2)) dX12_live_33 bp_m2 ?_
        exact k_iret hC (pc := 35) hQ hr dX12_live_35 h
      · have h := h.2 c_5
        refine k_aload_n hC (pc := 24) dX12_live_24 0 rfl ?_
        refine k_iload_n hC (pc := 25) dX12_live_25 1 rfl ?_
        refine k_iload_n hC (pc := 26) dX12_live_26 2 rfl ?_
        refine k_ci (rn_V hC (pc := 27) (As := [.int x1, .int x2]) (rest := []) ca_X12_liveOf ml_RX12_288 im_X12_liveOf se_X12_liveOf (fx_in f6_0) (ob6_0 _ _ _ _ _) rfl rfl (ct_X12_liveOf x1 x2 h) (by rw [hR]; exact ⟨rfl, rfl, by decide, by decide⟩) rfl (Nat.le_of_ble_eq_true rfl) dX12_live_27 ⟨by rw [hR]; decide, by rw [hR]; decide⟩) (fun r_7 s_6 h => ?_)
        refine k_goto hC (pc := 30) 35 dX12_live_30 (by decide) ?_
        exact k_iret hC (pc := 35) hQ hr dX12_live_35 h
    · have h := h.2 c_2
      refine k_iconst hC (pc := 12) (v := (-1)) dX12_live_12 ic_m1 ?_
      exact k_iret hC (pc := 13) hQ hr dX12_live_13 h
theorem ct_X12_live {l : Launch} {G : Gx} {a : Ax} {s : Sx} {N : Nat} {post : Int32 → Sx → Prop} (x1 : Int32) (x2 : Int32) (h : w_X12_live N x1 x2 s post) : Met l yX12_live (Cond.code yX12_live cX12_live 3 (some .int) :: gw) { frames := 1, cells := 0, slots := 0, locals := 25 } (va_Pc [.ref (adr G a 6 0), .int x1, .int x2] (fun U => FU G a s U)) (Qi G a post) 0 0 (bs_ G) := met_of (plainFor_of_name (by decide)) (Nat.le_of_ble_eq_true rfl) rfl (fun X hC hl hR hQ hr hG hn => by subst hG; exact b_X12_live hC hR hQ hr hn s x1 x2 h)
theorem ca_X12_live : Ca yX12_live cX12_live 3 (some .int) 2 := ⟨cd_X12_live, ii_RX12, by decide, by decide, by decide +kernel⟩
def w_X12_forest_54 (N : Nat) (post : Int64 → Sx → Prop) (K28 : Sx → Int32 → Int32 → Int64 → Int32 → Prop) (s : Sx) (x1 : Int32) (x2 : Int32) (x5 : Int32) (z0 : Int64) : Prop := w_X12_liveOf N x5 x2 s (fun r_10 s_9 => ∀ x_11 : Int64, x_11 = z0 + r_10.toInt64 → ∀ x_12 : Int32, x_12 = x5 + 1 → K28 s_9 x1 x2 x_11 x_12)
def w_X12_forest_28 (N : Nat) (post : Int64 → Sx → Prop) : Nat → Sx → Int32 → Int32 → Int64 → Int32 → Prop
  | 0, _, _, _, _, _ => False
  | n + 1, s, x1, x2, y3, x5 => ((s.1 6 0 50) ≤ x5 → post y3 s) ∧ (¬ ((s.1 6 0 50) ≤ x5) → (x1 = 4 → w_X12_forest_54 N post (w_X12_forest_28 N post n) s x1 x2 x5 y3) ∧ (¬ (x1 = 4) → vp_in x5 12 ∧ (¬ (s.1 5 51 x5.toNatClampNeg) = x1 → ∀ x_15 : Int64, x_15 = y3 + 0 → ∀ x_16 : Int32, x_16 = x5 + 1 → w_X12_forest_28 N post n s x1 x2 x_15 x_16) ∧ (¬ (¬ (s.1 5 51 x5.toNatClampNeg) = x1) → w_X12_forest_54 N post (w_X12_forest_28 N post n) s x1 x2 x5 y3)))
def w_X12_forest (N : Nat) (x1 : Int32) (x2 : Int32) (s : Sx) (post : Int64 → Sx → Prop) : Prop := w_X12_within N x1 0 4 s (fun r_2 s_1 => (r_2 = 0 → post ((-9223372036854775808)) s_1) ∧ (¬ (r_2 = 0) → w_X12_within N x2 0 99 s_1 (fun r_5 s_4 => (¬ r_5 = 0 → w_X12_forest_28 N post N s_4 x1 x2 0 0) ∧ (¬ (¬ r_5 = 0) → post ((-9223372036854775808)) s_4))))
set_option maxHeartbeats 4000000 in
theorem b_X12_forest_54 {X : Kx} {a : Ax} {N : Nat} {post : Int64 → Sx → Prop} {K28 : Sx → Int32 → Int32 → Int64 → Int32 → Prop}  (hC : Cx X cX12_forest 6 RX12) (hR : X.R = { frames := 1, cells := 0, slots := 0, locals := 25 }) (hQ : X.Q = MQ X.below (Ql X.G a post) X.av X.s 0 0 (bs_ X.G)) (hr : X.meth.sig.returnType = (some .long))  (hK28 : ∀ (s : Sx) (x1 : Int32) (x2 : Int32) (y3 : Int64) (x5 : Int32), K28 s x1 x2 y3 x5 → wk X a s 6 28 [(0, .ref (adr X.G a 6 0)), (1, .int x1), (2, .int x2), (3, .long y3), (5, .int x5)] [] 0 0) (s : Sx) (x1 : Int32) (x2 : Int32) (x5 : Int32) (z0 : Int64) (h : w_X12_forest_54 N post K28 s x1 x2 x5 z0) : wk X a s 6 54 [(0, .ref (adr X.G a 6 0)), (1, .int x1), (2, .int x2), (5, .int x5)] [.long z0] 0 0 := by
  unfold w_X12_forest_54 at h
  refine k_aload_n hC (pc := 54) dX12_forest_54 0 rfl ?_
  refine k_iload hC (pc := 55) dX12_forest_55 3 rfl ?_
  refine k_iload_n hC (pc := 57) dX12_forest_57 2 rfl ?_
  refine k_ci (rn_V hC (pc := 58) (As := [.int x5, .int x2]) (rest := [.long z0]) ca_X12_liveOf ml_RX12_288 im_X12_liveOf se_X12_liveOf (fx_in f6_0) (ob6_0 _ _ _ _ _) rfl rfl (ct_X12_liveOf x5 x2 h) (by rw [hR]; exact ⟨rfl, rfl, by decide, by decide⟩) rfl (Nat.le_of_ble_eq_true rfl) dX12_forest_58 ⟨by rw [hR]; decide, by rw [hR]; decide⟩) (fun r_10 s_9 h => ?_)
  refine k_i2l hC (pc := 61) dX12_forest_61 ?_
  refine k_goto hC (pc := 62) 66 dX12_forest_62 (by decide) ?_
  refine k_ladd hC (pc := 66) dX12_forest_66 ?_
  refine k_topl (fun x_11 h_x_11 => ?_)
  have h := h x_11 h_x_11
  refine k_lstore_n hC (pc := 67) dX12_forest_67 [(3, .long x_11), (0, .ref (adr X.G a 6 0)), (1, .int x1), (2, .int x2), (5, .int x5)] (by decide) rfl ?_
  obtain ⟨x_12, h_x_12⟩ : ∃ z : Int32, z = x5 + 1 := ⟨_, rfl⟩
  have h := h x_12 h_x_12
  refine k_iincw hC (pc := 68) dX12_forest_68 4 rfl ic_1 h_x_12.symm [(5, .int x_12), (3, .long x_11), (0, .ref (adr X.G a 6 0)), (1, .int x1), (2, .int x2)] (by decide) rfl ?_
  refine k_goto hC (pc := 71) 28 dX12_forest_71 (by decide) ?_
  refine k_sub [(0, .ref (adr X.G a 6 0)), (1, .int x1), (2, .int x2), (3, .long x_11), (5, .int x_12)] [2, 3, 4, 1, 0] rfl ?_
  exact hK28 _ _ _ _ _ h
set_option maxHeartbeats 4000000 in
theorem b_X12_forest_28 {X : Kx} {a : Ax} {N : Nat} {post : Int64 → Sx → Prop}  (hC : Cx X cX12_forest 6 RX12) (hR : X.R = { frames := 1, cells := 0, slots := 0, locals := 25 }) (hQ : X.Q = MQ X.below (Ql X.G a post) X.av X.s 0 0 (bs_ X.G)) (hr : X.meth.sig.returnType = (some .long))   : ∀ (n : Nat) (s : Sx) (x1 : Int32) (x2 : Int32) (y3 : Int64) (x5 : Int32), w_X12_forest_28 N post  n s x1 x2 y3 x5 → wk X a s 6 28 [(0, .ref (adr X.G a 6 0)), (1, .int x1), (2, .int x2), (3, .long y3), (5, .int x5)] [] 0 0 := by
  intro n
  induction n with
  | zero => intro s x1 x2 y3 x5 h; exact h.elim
  | succ n ih =>
    intro s x1 x2 y3 x5 h
    unfold w_X12_forest_28 at h
    refine k_iload hC (pc := 28) dX12_forest_28 4 rfl ?_
    refine k_aload_n hC (pc := 30) dX12_forest_30 0 rfl ?_
    refine gf_X12_50 hC (pc := 31)  fl_RX12_285 dX12_forest_31 ?_
    refine k_icmp_ge hC (pc := 34) 74 dX12_forest_34 (by decide) (fun c_7 => ?_) (fun c_7 => ?_)
    · have h := h.1 c_7
      refine k_lload_n hC (pc := 74) dX12_forest_74 3 rfl ?_
      exact k_lret hC (pc := 75) hQ hr dX12_forest_75 h
    · have h := h.2 c_7
      refine k_lload_n hC (pc := 37) dX12_forest_37 3 rfl ?_
      refine k_iload_n hC (pc := 38) dX12_forest_38 1 rfl ?_
      refine k_iconst hC (pc := 39) (v := 4) dX12_forest_39 ic_4 ?_
      refine k_icmp_eq hC (pc := 40) 54 dX12_forest_40 (by decide) (fun c_8 => ?_) (fun c_8 => ?_)
      · have h := h.1 c_8
        refine k_sub [(0, .ref (adr X.G a 6 0)), (1, .int x1), (2, .int x2), (5, .int x5)] [0, 1, 2, 4] rfl ?_
        exact b_X12_forest_54 hC hR hQ hr ih _ _ _ _ _ h
      · have h := h.2 c_8
        refine k_aload_n hC (pc := 43) dX12_forest_43 0 rfl ?_
        refine gf_X12_51 hC (pc := 44)  fl_RX12_125 dX12_forest_44 ?_
        refine k_iload hC (pc := 47) dX12_forest_47 4 rfl ?_
        obtain ⟨c_13, h⟩ := h
        refine r_iald hC (pc := 49) ra5_51 c_13 dX12_forest_49 ?_
        refine k_iload_n hC (pc := 50) dX12_forest_50 1 rfl ?_
        refine k_icmp_ne hC (pc := 51) 65 dX12_forest_51 (by decide) (fun c_14 => ?_) (fun c_14 => ?_)
        · have h := h.1 c_14
          refine k_lconst hC (pc := 65) (v := 0) dX12_forest_65 rfl ?_
          refine k_ladd hC (pc := 66) dX12_forest_66 ?_
          refine k_topl (fun x_15 h_x_15 => ?_)
          have h := h x_15 h_x_15
          refine k_lstore_n hC (pc := 67) dX12_forest_67 [(3, .long x_15), (0, .ref (adr X.G a 6 0)), (1, .int x1), (2, .int x2), (5, .int x5)] (by decide) rfl ?_
          obtain ⟨x_16, h_x_16⟩ : ∃ z : Int32, z = x5 + 1 := ⟨_, rfl⟩
          have h := h x_16 h_x_16
          refine k_iincw hC (pc := 68) dX12_forest_68 4 rfl ic_1 h_x_16.symm [(5, .int x_16), (3, .long x_15), (0, .ref (adr X.G a 6 0)), (1, .int x1), (2, .int x2)] (by decide) rfl ?_
          refine k_goto hC (pc := 71) 28 dX12_forest_71 (by decide) ?_
          refine k_sub [(0, .ref (adr X.G a 6 0)), (1, .int x1), (2, .int x2), (3, .long x_15), (5, .int x_16)] [2, 3, 4, 1, 0] rfl ?_
          exact ih _ _ _ _ _ h
        · have h := h.2 c_14
          refine k_sub [(0, .ref (adr X.G a 6 0)), (1, .int x1), (2, .int x2), (5, .int x5)] [0, 1, 2, 4] rfl ?_
          exact b_X12_forest_54 hC hR hQ hr ih _ _ _ _ _ h
set_option maxHeartbeats 4000000 in
theorem b_X12_forest {X : Kx} {a : Ax} {N : Nat} {post : Int64 → Sx → Prop} (hC : Cx X cX12_forest 6 RX12) (hR : X.R = { frames := 1, cells := 0, slots := 0, locals := 25 }) (hQ : X.Q = MQ X.below (Ql X.G a post) X.av X.s 0 0 (bs_ X.G)) (hr : X.meth.sig.returnType = (some .long)) (hn : X.meth.name = "forest") (s : Sx) (x1 : Int32) (x2 : Int32) (h : w_X12_forest N x1 x2 s post) : wk X a s 6 0 [(0, .ref (adr X.G a 6 0)), (1, .int x1), (2, .int x2)] [] 0 0 := by
  unfold w_X12_forest at h
  refine k_iload_n hC (pc := 0) dX12_forest_0 1 rfl ?_
  refine k_iconst hC (pc := 1) (v := 0) dX12_forest_1 ic_0 ?_
  refine k_iconst hC (pc := 2) (v := 4) dX12_forest_2 ic_4 ?_
  refine k_ci (rn_S hC (pc := 3) (As := [.int x1, .int 0, .int 4]) (rest := []) ca_X12_within ml_RX12_186 sm_X12_within (ct_X12_within x1 0 4 h) (by rw [hR]; exact ⟨rfl, rfl, by decide, by decide⟩) rfl (Nat.le_of_ble_eq_true rfl) dX12_forest_3 ⟨by rw [hR]; decide, by rw [hR]; decide⟩) (fun r_2 s_1 h => ?_)
  refine k_if_eq hC (pc := 6) 19 dX12_forest_6 (by decide) (fun c_3 => ?_) (fun c_3 => ?_)
  · have h := h.1 c_3
    refine k_ldc2 hC (pc := 19) dX12_forest_19 cn_RX12_184 ?_
    exact k_lret hC (pc := 22) hQ hr dX12_forest_22 h
  · have h := h.2 c_3
    refine k_iload_n hC (pc := 9) dX12_forest_9 2 rfl ?_
    refine k_iconst hC (pc := 10) (v := 0) dX12_forest_10 ic_0 ?_
    refine k_bipush hC (pc := 11) (v := 99) dX12_forest_11 bp_99 ?_
    refine k_ci (rn_S hC (pc := 13) (As := [.int x2, .int 0, .int 99]) (rest := []) ca_X12_within ml_RX12_186 sm_X12_within (ct_X12_within x2 0 99 h) (by rw [hR]; exact ⟨rfl, rfl, by decide, by decide⟩) rfl (Nat.le_of_ble_eq_true rfl) dX12_forest_13 ⟨by rw [hR]; decide, by rw [hR]; decide⟩) (fun r_5 s_4 h => ?_)
    refine k_if_ne hC (pc := 16) 23 dX12_forest_16 (by decide) (fun c_6 => ?_) (fun c_6 => ?_)
    · have h := h.1 c_6
      refine k_lconst hC (pc := 23) (v := 0) dX12_forest_23 rfl ?_
      refine k_lstore_n hC (pc := 24) dX12_forest_24 [(3, .long 0), (0, .ref (adr X.G a 6 0)), (1, .int x1), (2, .int x2)] (by decide) rfl ?_
      refine k_iconst hC (pc := 25) (v := 0) dX12_forest_25 ic_0 ?_
      refine k_istore hC (pc := 26) dX12_forest_26 [(5, .int 0), (3, .long 0), (0, .ref (adr X.G a 6 0)), (1, .int x1), (2, .int x2)] (by decide) rfl ?_
      refine k_sub [(0, .ref (adr X.G a 6 0)), (1, .int x1), (2, .int x2), (3, .long 0), (5, .int 0)] [2, 3, 4, 1, 0] rfl ?_
      exact b_X12_forest_28 hC hR hQ hr N _ _ _ _ _ h
    · have h := h.2 c_6
      refine k_ldc2 hC (pc := 19) dX12_forest_19 cn_RX12_184 ?_
      exact k_lret hC (pc := 22) hQ hr dX12_forest_22 h
theorem ct_X12_forest {l : Launch} {G : Gx} {a : Ax} {s : Sx} {N : Nat} {post : Int64 → Sx → Prop} (x1 : Int32) (x2 : Int32) (h : w_X12_forest N x1 x2 s post) : Met l yX12_forest (Cond.code yX12_forest cX12_forest 6 (some .long) :: gw) { frames := 1, cells := 0, slots := 0, locals := 25 } (va_Pc [.ref (adr G a 6 0), .int x1, .int x2] (fun U => FU G a s U)) (Ql G a post) 0 0 (bs_ G) := met_of (plainFor_of_name (by decide)) (Nat.le_of_ble_eq_true rfl) rfl (fun X hC hl hR hQ hr hG hn => by subst hG; exact b_X12_forest hC hR hQ hr hn s x1 x2 h)
theorem ca_X12_forest : Ca yX12_forest cX12_forest 6 (some .long) 2 := ⟨cd_X12_forest, ii_RX12, by decide, by decide, by decide +kernel⟩
def w_X12_fire (N : Nat) (x1 : Int32) (x2 : Int32) (x3 : Int32) (x4 : Int32) (s : Sx) (post : Int32 → Sx → Prop) : Prop := w_X12_isSpot N x1 x2 s (fun r_2 s_1 => (r_2 = 0 → post ((-2)) s_1) ∧ (¬ (r_2 = 0) → w_X12_within N x3 1 60 s_1 (fun r_5 s_4 => (r_5 = 0 → post ((-2)) s_4) ∧ (¬ (r_5 = 0) → w_X12_within N x4 1 99 s_4 (fun r_8 s_7 => (¬ r_8 = 0 → (¬ (s_7.1 6 0 55) = 3 → vp_in (s_7.1 6 0 55) 3 ∧ ∀ s_12, s_12 = setI s_7 5 56 (s_7.1 6 0 55).toNatClampNeg x1 → vp_in (s_12.1 6 0 55) 3 ∧ ∀ s_14, s_14 = setI s_12 5 57 (s_12.1 6 0 55).toNatClampNeg x2 → vp_in (s_14.1 6 0 55) 3 ∧ ∀ s_16, s_16 = setI s_14 5 58 (s_14.1 6 0 55).toNatClampNeg x3 → vp_in (s_16.1 6 0 55) 3 ∧ ∀ s_18, s_18 = setI s_16 5 59 (s_16.1 6 0 55).toNatClampNeg x4 → ∀ s_19, s_19 = setI s_18 6 0 55 ((s_18.1 6 0 55) + 1) → post ((s_19.1 6 0 55) - 1) s_19) ∧ (¬ (¬ (s_7.1 6 0 55) = 3) → post ((-4)) s_7)) ∧ (¬ (¬ r_8 = 0) → post ((-2)) s_7))))))
set_option maxHeartbeats 4000000 in
theorem b_X12_fire {X : Kx} {a : Ax} {N : Nat} {post : Int32 → Sx → Prop} (hC : Cx X cX12_fire 5 RX12) (hR : X.R = { frames := 2, cells := 0, slots := 0, locals := 43 }) (hQ : X.Q = MQ X.below (Qi X.G a post) X.av X.s 0 0 (bs_ X.G)) (hr : X.meth.sig.returnType = (some .int)) (hn : X.meth.name = "fire") (s : Sx) (x1 : Int32) (x2 : Int32) (x3 : Int32) (x4 : Int32) (h : w_X12_fire N x1 x2 x3 x4 s post) : wk X a s 5 0 [(0, .ref (adr X.G a 6 0)), (1, .int x1), (2, .int x2), (3, .int x3), (4, .int x4)] [] 0 0 := by
  unfold w_X12_fire at h
  refine k_iload_n hC (pc := 0) dX12_fire_0 1 rfl ?_
  refine k_iload_n hC (pc := 1) dX12_fire_1 2 rfl ?_
  refine k_ci (rn_S hC (pc := 2) (As := [.int x1, .int x2]) (rest := []) ca_X12_isSpot ml_RX12_199 sm_X12_isSpot (ct_X12_isSpot x1 x2 h) (by rw [hR]; exact ⟨rfl, rfl, by decide, by decide⟩) rfl (Nat.le_of_ble_eq_true rfl) dX12_fire_2 ⟨by rw [hR]; decide, by rw [hR]; decide⟩) (fun r_2 s_1 h => ?_)
  refine k_if_eq hC (pc := 5) 29 dX12_fire_5 (by decide) (fun c_3 => ?_) (fun c_3 => ?_)
  · have h := h.1 c_3
    refine k_bipush hC (pc := 29) (v := (-2)) dX12_fire_29 bp_m2 ?_
    exact k_iret hC (pc := 31) hQ hr dX12_fire_31 h
  · have h := h.2 c_3
    refine k_iload_n hC (pc := 8) dX12_fire_8 3 rfl ?_
    refine k_iconst hC (pc := 9) (v := 1) dX12_fire_9 ic_1 ?_
    refine k_bipush hC (pc := 10) (v := 60) dX12_fire_10 bp_60 ?_
    refine k_ci (rn_S hC (pc := 12) (As := [.int x3, .int 1, .int 60]) (rest := []) ca_X12_within ml_RX12_186 sm_X12_within (ct_X12_within x3 1 60 h) (by rw [hR]; exact ⟨rfl, rfl, by decide, by decide⟩) rfl (Nat.le_of_ble_eq_true rfl) dX12_fire_12 ⟨by rw [hR]; decide, by rw [hR]; decide⟩) (fun r_5 s_4 h => ?_)
    refine k_if_eq hC (pc := 15) 29 dX12_fire_15 (by decide) (fun c_6 => ?_) (fun c_6 => ?_)
    · have h := h.1 c_6
      refine k_bipush hC (pc := 29) (v := (-2)) dX12_fire_29 bp_m2 ?_
      exact k_iret hC (pc := 31) hQ hr dX12_fire_31 h
    · have h := h.2 c_6
      refine k_iload hC (pc := 18) dX12_fire_18 4 rfl ?_
      refine k_iconst hC (pc := 20) (v := 1) dX12_fire_20 ic_1 ?_
      refine k_bipush hC (pc := 21) (v := 99) dX12_fire_21 bp_99 ?_
      refine k_ci (rn_S hC (pc := 23) (As := [.int x4, .int 1, .int 99]) (rest := []) ca_X12_within ml_RX12_186 sm_X12_within (ct_X12_within x4 1 99 h) (by rw [hR]; exact ⟨rfl, rfl, by decide, by decide⟩) rfl (Nat.le_of_ble_eq_true rfl) dX12_fire_23 ⟨by rw [hR]; decide, by rw [hR]; decide⟩) (fun r_8 s_7 h => ?_)
      refine k_if_ne hC (pc := 26) 32 dX12_fire_26 (by decide) (fun c_9 => ?_) (fun c_9 => ?_)
      · have h := h.1 c_9
        refine k_aload_n hC (pc := 32) dX12_fire_32 0 rfl ?_
        refine gf_X12_55 hC (pc := 33)  fl_RX12_291 dX12_fire_33 ?_
        refine k_iconst hC (pc := 36) (v := 3) dX12_fire_36 ic_3 ?_
        refine k_icmp_ne hC (pc := 37) 43 dX12_fire_37 (by decide) (fun c_10 => ?_) (fun c_10 => ?_)
        · have h := h.1 c_10
          refine k_aload_n hC (pc := 43) dX12_fire_43 0 rfl ?_
          refine gf_X12_56 hC (pc := 44)  fl_RX12_137 dX12_fire_44 ?_
          refine k_aload_n hC (pc := 47) dX12_fire_47 0 rfl ?_
          refine gf_X12_55 hC (pc := 48)  fl_RX12_291 dX12_fire_48 ?_
          refine k_iload_n hC (pc := 51) dX12_fire_51 1 rfl ?_
          obtain ⟨c_11, h⟩ := h
          refine r_iast hC (pc := 52) ra5_56 c_11 dX12_fire_52 (fun s_12 h_s_12 => ?_)
          have h := h s_12 h_s_12
          refine k_aload_n hC (pc := 53) dX12_fire_53 0 rfl ?_
          refine gf_X12_57 hC (pc := 54)  fl_RX12_140 dX12_fire_54 ?_
          refine k_aload_n hC (pc := 57) dX12_fire_57 0 rfl ?_
          refine gf_X12_55 hC (pc := 58)  fl_RX12_291 dX12_fire_58 ?_
          refine k_iload_n hC (pc := 61) dX12_fire_61 2 rfl ?_
          obtain ⟨c_13, h⟩ := h
          refine r_iast hC (pc := 62) ra5_57 c_13 dX12_fire_62 (fun s_14 h_s_14 => ?_)
          have h := h s_14 h_s_14
          refine k_aload_n hC (pc := 63) dX12_fire_63 0 rfl ?_
          refine gf_X12_58 hC (pc := 64)  fl_RX12_143 dX12_fire_64 ?_
          refine k_aload_n hC (pc := 67) dX12_fire_67 0 rfl ?_
          refine gf_X12_55 hC (pc := 68)  fl_RX12_291 dX12_fire_68 ?_
          refine k_iload_n hC (pc := 71) dX12_fire_71 3 rfl ?_
          obtain ⟨c_15, h⟩ := h
          refine r_iast hC (pc := 72) ra5_58 c_15 dX12_fire_72 (fun s_16 h_s_16 => ?_)
          have h := h s_16 h_s_16
          refine k_aload_n hC (pc := 73) dX12_fire_73 0 rfl ?_
          refine gf_X12_59 hC (pc := 74)  fl_RX12_146 dX12_fire_74 ?_
          refine k_aload_n hC (pc := 77) dX12_fire_77 0 rfl ?_
          refine gf_X12_55 hC (pc := 78)  fl_RX12_291 dX12_fire_78 ?_
          refine k_iload hC (pc := 81) dX12_fire_81 4 rfl ?_
          obtain ⟨c_17, h⟩ := h
          refine r_iast hC (pc := 83) ra5_59 c_17 dX12_fire_83 (fun s_18 h_s_18 => ?_)
          have h := h s_18 h_s_18
          refine k_aload_n hC (pc := 84) dX12_fire_84 0 rfl ?_
          refine k_dup hC (pc := 85) dX12_fire_85 rfl ?_
          refine gf_X12_55 hC (pc := 86)  fl_RX12_291 dX12_fire_86 ?_
          refine k_iconst hC (pc := 89) (v := 1) dX12_fire_89 ic_1 ?_
          refine k_iadd hC (pc := 90) dX12_fire_90 ?_
          refine pf_X12_55 hC (pc := 91)  fl_RX12_291 dX12_fire_91 (fun s_19 h_s_19 => ?_)
          have h := h s_19 h_s_19
          refine k_aload_n hC (pc := 94) dX12_fire_94 0 rfl ?_
          refine gf_X12_55 hC (pc := 95)  fl_RX12_291 dX12_fire_95 ?_
          refine k_iconst hC (pc := 98) (v := 1) dX12_fire_98 ic_1 ?_
          refine k_isub hC (pc := 99) dX12_fire_99 ?_
          exact k_iret hC (pc := 100) hQ hr dX12_fire_100 h
        · have h := h.2 c_10
          refine k_bipush hC (pc := 40) (v := (-4)) dX12_fire_40 bp_m4 ?_
          exact k_iret hC (pc := 42) hQ hr dX12_fire_42 h
      · have h := h.2 c_9
        refine k_bipush hC (pc := 29) (v := (-2)) dX12_fire_29 bp_m2 ?_
        exact k_iret hC (pc := 31) hQ hr dX12_fire_31 h
theorem ct_X12_fire {l : Launch} {G : Gx} {a : Ax} {s : Sx} {N : Nat} {post : Int32 → Sx → Prop} (x1 : Int32) (x2 : Int32) (x3 : Int32) (x4 : Int32) (h : w_X12_fire N x1 x2 x3 x4 s post) : Met l yX12_fire (Cond.code yX12_fire cX12_fire 5 (some .int) :: gw) { frames := 2, cells := 0, slots := 0, locals := 43 } (va_Pc [.ref (adr G a 6 0), .int x1, .int x2, .int x3, .int x4] (fun U => FU G a s U)) (Qi G a post) 0 0 (bs_ G) := met_of (plainFor_of_name (by decide)) (Nat.le_of_ble_eq_true rfl) rfl (fun X hC hl hR hQ hr hG hn => by subst hG; exact b_X12_fire hC hR hQ hr hn s x1 x2 x3 x4 h)
theorem ca_X12_fire : Ca yX12_fire cX12_fire 5 (some .int) 4 := ⟨cd_X12_fire, ii_RX12, by decide, by decide, by decide +kernel⟩
def w_X12_crew (N : Nat) (x1 : Int32) (x2 : Int32) (s : Sx) (post : Int32 → Sx → Prop) : Prop := w_X12_isCamp N x1 s (fun r_2 s_1 => (¬ r_2 = 0 → w_X12_within N x2 0 9 s_1 (fun r_5 s_4 => (¬ r_5 = 0 → vp_in x1 7 ∧ ∀ x_8 : Int32, x_8 = s_4.1 5 60 x1.toNatClampNeg → vp_in x1 7 ∧ ∀ s_10, s_10 = setI s_4 5 60 x1.toNatClampNeg x2 → post x_8 s_10) ∧ (¬ (¬ r_5 = 0) → post ((-2)) s_4))) ∧ (¬ (¬ r_2 = 0) → post ((-1)) s_1))
set_option maxHeartbeats 4000000 in
theorem b_X12_crew {X : Kx} {a : Ax} {N : Nat} {post : Int32 → Sx → Prop} (hC : Cx X cX12_crew 4 RX12) (hR : X.R = { frames := 1, cells := 0, slots := 0, locals := 22 }) (hQ : X.Q = MQ X.below (Qi X.G a post) X.av X.s 0 0 (bs_ X.G)) (hr : X.meth.sig.returnType = (some .int)) (hn : X.meth.name = "crew") (s : Sx) (x1 : Int32) (x2 : Int32) (h : w_X12_crew N x1 x2 s post) : wk X a s 4 0 [(0, .ref (adr X.G a 6 0)), (1, .int x1), (2, .int x2)] [] 0 0 := by
  unfold w_X12_crew at h
  refine k_aload_n hC (pc := 0) dX12_crew_0 0 rfl ?_
  refine k_iload_n hC (pc := 1) dX12_crew_1 1 rfl ?_
  refine k_ci (rn_V hC (pc := 2) (As := [.int x1]) (rest := []) ca_X12_isCamp ml_RX12_210 im_X12_isCamp se_X12_isCamp (fx_in f6_0) (ob6_0 _ _ _ _ _) rfl rfl (ct_X12_isCamp x1 h) (by rw [hR]; exact ⟨rfl, rfl, by decide, by decide⟩) rfl (Nat.le_of_ble_eq_true rfl) dX12_crew_2 ⟨by rw [hR]; decide, by rw [hR]; decide⟩) (fun r_2 s_1 h => ?_)
  refine k_if_ne hC (pc := 5) 10 dX12_crew_5 (by decide) (fun c_3 => ?_) (fun c_3 => ?_)
  · have h := h.1 c_3
    refine k_iload_n hC (pc := 10) dX12_crew_10 2 rfl ?_
    refine k_iconst hC (pc := 11) (v := 0) dX12_crew_11 ic_0 ?_
    refine k_bipush hC (pc := 12) (v := 9) dX12_crew_12 bp_9 ?_
    refine k_ci (rn_S hC (pc := 14) (As := [.int x2, .int 0, .int 9]) (rest := []) ca_X12_within ml_RX12_186 sm_X12_within (ct_X12_within x2 0 9 h) (by rw [hR]; exact ⟨rfl, rfl, by decide, by decide⟩) rfl (Nat.le_of_ble_eq_true rfl) dX12_crew_14 ⟨by rw [hR]; decide, by rw [hR]; decide⟩) (fun r_5 s_4 h => ?_)
    refine k_if_ne hC (pc := 17) 23 dX12_crew_17 (by decide) (fun c_6 => ?_) (fun c_6 => ?_)
    · have h := h.1 c_6
      refine k_aload_n hC (pc := 23) dX12_crew_23 0 rfl ?_
      refine gf_X12_60 hC (pc := 24)  fl_RX12_149 dX12_crew_24 ?_
      refine k_iload_n hC (pc := 27) dX12_crew_27 1 rfl ?_
      obtain ⟨c_7, h⟩ := h
      refine r_iald hC (pc := 28) ra5_60 c_7 dX12_crew_28 ?_
      refine k_topi (fun x_8 h_x_8 => ?_)
      have h := h x_8 h_x_8
      refine k_istore_n hC (pc := 29) dX12_crew_29 [(3, .int x_8), (0, .ref (adr X.G a 6 0)), (1, .int x1), (2, .int x2)] (by decide) rfl ?_
      refine k_aload_n hC (pc := 30) dX12_crew_30 1 rfl ?_
      refine gf_X12_60 hC (pc := 31)  fl_RX12_149 dX12_crew_31 ?_
      refine k_iload_n hC (pc := 34) dX12_crew_34 2 rfl ?_
      refine k_iload_n hC (pc := 35) dX12_crew_35 3 rfl ?_
      obtain ⟨c_9, h⟩ := h
      refine r_iast hC (pc := 36) ra5_60 c_9 dX12_crew_36 (fun s_10 h_s_10 => ?_)
      have h := h s_10 h_s_10
      refine k_iload_n hC (pc := 37) dX12_crew_37 0 rfl ?_
      exact k_iret hC (pc := 38) hQ hr dX12_crew_38 h
    · have h := h.2 c_6
      refine k_bipush hC (pc := 20) (v := (-2)) dX12_crew_20 bp_m2 ?_
      exact k_iret hC (pc := 22) hQ hr dX12_crew_22 h
  · have h := h.2 c_3
    refine k_iconst hC (pc := 8) (v := (-1)) dX12_crew_8 ic_m1 ?_
    exact k_iret hC (pc := 9) hQ hr dX12_crew_9 h
theorem ct_X12_crew {l : Launch} {G : Gx} {a : Ax} {s : Sx} {N : Nat} {post : Int32 → Sx → Prop} (x1 : Int32) (x2 : Int32) (h : w_X12_crew N x1 x2 s post) : Met l yX12_crew (Cond.code yX12_crew cX12_crew 4 (some .int) :: gw) { frames := 1, cells := 0, slots := 0, locals := 22 } (va_Pc [.ref (adr G a 6 0), .int x1, .int x2] (fun U => FU G a s U)) (Qi G a post) 0 0 (bs_ G) := met_of (plainFor_of_name (by decide)) (Nat.le_of_ble_eq_true rfl) rfl (fun X hC hl hR hQ hr hG hn => by subst hG; exact b_X12_crew hC hR hQ hr hn s x1 x2 h)
theorem ca_X12_crew : Ca yX12_crew cX12_crew 4 (some .int) 2 := ⟨cd_X12_crew, ii_RX12, by decide, by decide, by decide +kernel⟩
def w_X12_layHours_12 (N : Nat) (post : Sx → Prop) (K2 : Sx → Int32 → Prop) : Nat → Sx → Int32 → Int32 → Prop
  | 0, _, _, _ => False
  | n + 1, s, x1, x2 => ((s.1 6 0 55) ≤ x2 → ∀ x_3 : Int32, x_3 = x1 + 1 → K2 s x_3) ∧ (¬ ((s.1 6 0 55) ≤ x2) → vp_in x1 7 ∧ vp_in x2 3 ∧ w_X12_size N ((s.1 5 6 x1.toNatClampNeg) - (s.1 5 56 x2.toNatClampNeg)) s (fun r_7 s_6 => vp_in x1 7 ∧ vp_in x2 3 ∧ w_X12_size N ((s_6.1 5 7 x1.toNatClampNeg) - (s_6.1 5 57 x2.toNatClampNeg)) s_6 (fun r_11 s_10 => vp_in ((3 * x1) + x2) 21 ∧ ∀ s_13, s_13 = setI s_10 5 62 ((3 * x1) + x2).toNatClampNeg (((r_7 + r_11) + 7) / 8) → ∀ x_14 : Int32, x_14 = x2 + 1 → w_X12_layHours_12 N post K2 n s_13 x1 x_14)))
def w_X12_layHours_2 (N : Nat) (post : Sx → Prop) : Nat → Sx → Int32 → Prop
  | 0, _, _ => False
  | n + 1, s, x1 => ((s.1 6 0 5) ≤ x1 → post s) ∧ (¬ ((s.1 6 0 5) ≤ x1) → w_X12_layHours_12 N post (w_X12_layHours_2 N post n) N s x1 0)
def w_X12_layHours (N : Nat) (s : Sx) (post : Sx → Prop) : Prop := w_X12_layHours_2 N post N s 0
set_option maxHeartbeats 4000000 in
theorem b_X12_layHours_12 {X : Kx} {a : Ax} {N : Nat} {post : Sx → Prop} {K2 : Sx → Int32 → Prop}  (hC : Cx X cX12_layHours 3 RX12) (hR : X.R = { frames := 1, cells := 0, slots := 0, locals := 20 }) (hQ : X.Q = MQ X.below (Qv X.G a post) X.av X.s 0 0 (bs_ X.G)) (hr : X.meth.sig.returnType = none)  (hK2 : ∀ (s : Sx) (x1 : Int32), K2 s x1 → wk X a s 3 2 [(0, .ref (adr X.G a 6 0)), (1, .int x1)] [] 0 0) : ∀ (n : Nat) (s : Sx) (x1 : Int32) (x2 : Int32), w_X12_layHours_12 N post K2 n s x1 x2 → wk X a s 3 12 [(0, .ref (adr X.G a 6 0)), (1, .int x1), (2, .int x2)] [] 0 0 := by
  intro n
  induction n with
  | zero => intro s x1 x2 h; exact h.elim
  | succ n ih =>
    intro s x1 x2 h
    unfold w_X12_layHours_12 at h
    refine k_iload_n hC (pc := 12) dX12_layHours_12 2 rfl ?_
    refine k_aload_n hC (pc := 13) dX12_layHours_13 0 rfl ?_
    refine gf_X12_55 hC (pc := 14)  fl_RX12_291 dX12_layHours_14 ?_
    refine k_icmp_ge hC (pc := 17) 75 dX12_layHours_17 (by decide) (fun c_2 => ?_) (fun c_2 => ?_)
    · have h := h.1 c_2
      obtain ⟨x_3, h_x_3⟩ : ∃ z : Int32, z = x1 + 1 := ⟨_, rfl⟩
      have h := h x_3 h_x_3
      refine k_iincw hC (pc := 75) dX12_layHours_75 1 rfl ic_1 h_x_3.symm [(1, .int x_3), (0, .ref (adr X.G a 6 0)), (2, .int x2)] (by decide) rfl ?_
      refine k_goto hC (pc := 78) 2 dX12_layHours_78 (by decide) ?_
      refine k_sub [(0, .ref (adr X.G a 6 0)), (1, .int x_3)] [1, 0] rfl ?_
      exact hK2 _ _ h
    · have h := h.2 c_2
      refine k_aload_n hC (pc := 20) dX12_layHours_20 0 rfl ?_
      refine gf_X12_62 hC (pc := 21)  fl_RX12_155 dX12_layHours_21 ?_
      refine k_iconst hC (pc := 24) (v := 3) dX12_layHours_24 ic_3 ?_
      refine k_iload_n hC (pc := 25) dX12_layHours_25 1 rfl ?_
      refine k_imul hC (pc := 26) dX12_layHours_26 ?_
      refine k_iload_n hC (pc := 27) dX12_layHours_27 2 rfl ?_
      refine k_iadd hC (pc := 28) dX12_layHours_28 ?_
      refine k_aload_n hC (pc := 29) dX12_layHours_29 0 rfl ?_
      refine gf_X12_6 hC (pc := 30)  fl_RX12_19 dX12_layHours_30 ?_
      refine k_iload_n hC (pc := 33) dX12_layHours_33 1 rfl ?_
      obtain ⟨c_4, h⟩ := h
      refine r_iald hC (pc := 34) ra5_6 c_4 dX12_layHours_34 ?_
      refine k_aload_n hC (pc := 35) dX12_layHours_35 0 rfl ?_
      refine gf_X12_56 hC (pc := 36)  fl_RX12_137 dX12_layHours_36 ?_
      refine k_iload_n hC (pc := 39) dX12_layHours_39 2 rfl ?_
      obtain ⟨c_5, h⟩ := h
      refine r_iald hC (pc := 40) ra5_56 c_5 dX12_layHours_40 ?_
      refine k_isub hC (pc := 41) dX12_layHours_41 ?_
      refine k_ci (rn_S hC (pc := 42) (As := [.int ((s.1 5 6 x1.toNatClampNeg) - (s.1 5 56 x2.toNatClampNeg))]) (rest := [.int ((3 * x1) + x2), .ref (adr X.G a 5 62)]) ca_X12_size ml_RX12_294 sm_X12_size (ct_X12_size ((s.1 5 6 x1.toNatClampNeg) - (s.1 5 56 x2.toNatClampNeg)) h) (by rw [hR]; exact ⟨rfl, rfl, by decide, by decide⟩) rfl (Nat.le_of_ble_eq_true rfl) dX12_layHours_42 ⟨by rw [hR]; decide, by rw [hR]; decide⟩) (fun r_7 s_6 h => ?_)
      refine k_aload_n hC (pc := 45) dX12_layHours_45 0 rfl ?_
      refine gf_X12_7 hC (pc := 46)  fl_RX12_22 dX12_layHours_46 ?_
      refine k_iload_n hC (pc := 49) dX12_layHours_49 1 rfl ?_
      obtain ⟨c_8, h⟩ := h
      refine r_iald hC (pc := 50) ra5_7 c_8 dX12_layHours_50 ?_
      refine k_aload_n hC (pc := 51) dX12_layHours_51 0 rfl ?_
      refine gf_X12_57 hC (pc := 52)  fl_RX12_140 dX12_layHours_52 ?_
      refine k_iload_n hC (pc := 55) dX12_layHours_55 2 rfl ?_
      obtain ⟨c_9, h⟩ := h
      refine r_iald hC (pc := 56) ra5_57 c_9 dX12_layHours_56 ?_
      refine k_isub hC (pc := 57) dX12_layHours_57 ?_
      refine k_ci (rn_S hC (pc := 58) (As := [.int ((s_6.1 5 7 x1.toNatClampNeg) - (s_6.1 5 57 x2.toNatClampNeg))]) (rest := [.int r_7, .int ((3 * x1) + x2), .ref (adr X.G a 5 62)]) ca_X12_size ml_RX12_294 sm_X12_size (ct_X12_size ((s_6.1 5 7 x1.toNatClampNeg) - (s_6.1 5 57 x2.toNatClampNeg)) h) (by rw [hR]; exact ⟨rfl, rfl, by decide, by decide⟩) rfl (Nat.le_of_ble_eq_true rfl) dX12_layHours_58 ⟨by rw [hR]; decide, by rw [hR]; decide⟩) (fun r_11 s_10 h => ?_)
      refine k_iadd hC (pc := 61) dX12_layHours_61 ?_
      refine k_bipush hC (pc := 62) (v := 7) dX12_layHours_62 bp_7 ?_
      refine k_iadd hC (pc := 64) dX12_layHours_64 ?_
      refine k_bipush hC (pc := 65) (v := 8) dX12_layHours_65 bp_8 ?_
      refine k_idiv hC (pc := 67) dX12_layHours_67 (by decide) ?_
      obtain ⟨c_12, h⟩ := h
      refine r_iast hC (pc := 68) ra5_62 c_12 dX12_layHours_68 (fun s_13 h_s_13 => ?_)
      have h := h s_13 h_s_13
      obtain ⟨x_14, h_x_14⟩ : ∃ z : Int32, z = x2 + 1 := ⟨_, rfl⟩
      have h := h x_14 h_x_14
      refine k_iincw hC (pc := 69) dX12_layHours_69 2 rfl ic_1 h_x_14.symm [(2, .int x_14), (0, .ref (adr X.G a 6 0)), (1, .int x1)] (by decide) rfl ?_
      refine k_goto hC (pc := 72) 12 dX12_layHours_72 (by decide) ?_
      refine k_sub [(0, .ref (adr X.G a 6 0)), (1, .int x1), (2, .int x_14)] [1, 2, 0] rfl ?_
      exact ih _ _ _ h
set_option maxHeartbeats 4000000 in
theorem b_X12_layHours_2 {X : Kx} {a : Ax} {N : Nat} {post : Sx → Prop}  (hC : Cx X cX12_layHours 3 RX12) (hR : X.R = { frames := 1, cells := 0, slots := 0, locals := 20 }) (hQ : X.Q = MQ X.below (Qv X.G a post) X.av X.s 0 0 (bs_ X.G)) (hr : X.meth.sig.returnType = none)   : ∀ (n : Nat) (s : Sx) (x1 : Int32), w_X12_layHours_2 N post  n s x1 → wk X a s 3 2 [(0, .ref (adr X.G a 6 0)), (1, .int x1)] [] 0 0 := by
  intro n
  induction n with
  | zero => intro s x1 h; exact h.elim
  | succ n ih =>
    intro s x1 h
    unfold w_X12_layHours_2 at h
    refine k_iload_n hC (pc := 2) dX12_layHours_2 1 rfl ?_
    refine k_aload_n hC (pc := 3) dX12_layHours_3 0 rfl ?_
    refine gf_X12_5 hC (pc := 4)  fl_RX12_190 dX12_layHours_4 ?_
    refine k_icmp_ge hC (pc := 7) 81 dX12_layHours_7 (by decide) (fun c_1 => ?_) (fun c_1 => ?_)
    · have h := h.1 c_1
      exact k_vret hC (pc := 81) hQ hr dX12_layHours_81 h
    · have h := h.2 c_1
      refine k_iconst hC (pc := 10) (v := 0) dX12_layHours_10 ic_0 ?_
      refine k_istore_n hC (pc := 11) dX12_layHours_11 [(2, .int 0), (0, .ref (adr X.G a 6 0)), (1, .int x1)] (by decide) rfl ?_
      refine k_sub [(0, .ref (adr X.G a 6 0)), (1, .int x1), (2, .int 0)] [1, 2, 0] rfl ?_
      exact b_X12_layHours_12 hC hR hQ hr ih N _ _ _ h
set_option maxHeartbeats 4000000 in
theorem b_X12_layHours {X : Kx} {a : Ax} {N : Nat} {post : Sx → Prop} (hC : Cx X cX12_layHours 3 RX12) (hR : X.R = { frames := 1, cells := 0, slots := 0, locals := 20 }) (hQ : X.Q = MQ X.below (Qv X.G a post) X.av X.s 0 0 (bs_ X.G)) (hr : X.meth.sig.returnType = none) (hn : X.meth.name = "layHours") (s : Sx) (h : w_X12_layHours N s post) : wk X a s 3 0 [(0, .ref (adr X.G a 6 0))] [] 0 0 := by
  unfold w_X12_layHours at h
  refine k_iconst hC (pc := 0) (v := 0) dX12_layHours_0 ic_0 ?_
  refine k_istore_n hC (pc := 1) dX12_layHours_1 [(1, .int 0), (0, .ref (adr X.G a 6 0))] (by decide) rfl ?_
  refine k_sub [(0, .ref (adr X.G a 6 0)), (1, .int 0)] [1, 0] rfl ?_
  exact b_X12_layHours_2 hC hR hQ hr N _ _ h
theorem ct_X12_layHours {l : Launch} {G : Gx} {a : Ax} {s : Sx} {N : Nat} {post : Sx → Prop} (h : w_X12_layHours N s post) : Met l yX12_layHours (Cond.code yX12_layHours cX12_layHours 3 none :: gw) { frames := 1, cells := 0, slots := 0, locals := 20 } (va_Pc [.ref (adr G a 6 0)] (fun U => FU G a s U)) (Qv G a post) 0 0 (bs_ G) := met_of (plainFor_of_name (by decide)) (Nat.le_of_ble_eq_true rfl) rfl (fun X hC hl hR hQ hr hG hn => by subst hG; exact b_X12_layHours hC hR hQ hr hn s h)
theorem ca_X12_layHours : Ca yX12_layHours cX12_layHours 3 none 0 := ⟨cd_X12_layHours, ii_RX12, by decide, by decide, by decide +kernel⟩
def w_X12_calls_4 (N : Nat) (post : Int32 → Sx → Prop) : Nat → Sx → Int32 → Int32 → Prop
  | 0, _, _, _ => False
  | n + 1, s, x1, x2 => ((s.1 6 0 5) ≤ x2 → post x1 s) ∧ (¬ ((s.1 6 0 5) ≤ x2) → ∀ x_2 : Int32, x_2 = x1 * ((s.1 6 0 55) + 1) → ∀ x_3 : Int32, x_3 = x2 + 1 → w_X12_calls_4 N post n s x_2 x_3)
def w_X12_calls (N : Nat) (s : Sx) (post : Int32 → Sx → Prop) : Prop := w_X12_calls_4 N post N s 1 0
set_option maxHeartbeats 4000000 in
theorem b_X12_calls_4 {X : Kx} {a : Ax} {N : Nat} {post : Int32 → Sx → Prop}  (hC : Cx X cX12_calls 3 RX12) (hR : X.R = { frames := 0, cells := 0, slots := 0, locals := 0 }) (hQ : X.Q = MQ X.below (Qi X.G a post) X.av X.s 0 0 (bs_ X.G)) (hr : X.meth.sig.returnType = (some .int))   : ∀ (n : Nat) (s : Sx) (x1 : Int32) (x2 : Int32), w_X12_calls_4 N post  n s x1 x2 → wk X a s 3 4 [(0, .ref (adr X.G a 6 0)), (1, .int x1), (2, .int x2)] [] 0 0 := by
  intro n
  induction n with
  | zero => intro s x1 x2 h; exact h.elim
  | succ n ih =>
    intro s x1 x2 h
    unfold w_X12_calls_4 at h
    refine k_iload_n hC (pc := 4) dX12_calls_4 2 rfl ?_
    refine k_aload_n hC (pc := 5) dX12_calls_5 0 rfl ?_
    refine gf_X12_5 hC (pc := 6)  fl_RX12_190 dX12_calls_6 ?_
    refine k_icmp_ge hC (pc := 9) 27 dX12_calls_9 (by decide) (fun c_1 => ?_) (fun c_1 => ?_)
    · have h := h.1 c_1
      refine k_iload_n hC (pc := 27) dX12_calls_27 1 rfl ?_
      exact k_iret hC (pc := 28) hQ hr dX12_calls_28 h
    · have h := h.2 c_1
      refine k_iload_n hC (pc := 12) dX12_calls_12 1 rfl ?_
      refine k_aload_n hC (pc := 13) dX12_calls_13 0 rfl ?_
      refine gf_X12_55 hC (pc := 14)  fl_RX12_291 dX12_calls_14 ?_
      refine k_iconst hC (pc := 17) (v := 1) dX12_calls_17 ic_1 ?_
      refine k_iadd hC (pc := 18) dX12_calls_18 ?_
      refine k_imul hC (pc := 19) dX12_calls_19 ?_
      refine k_topi (fun x_2 h_x_2 => ?_)
      have h := h x_2 h_x_2
      refine k_istore_n hC (pc := 20) dX12_calls_20 [(1, .int x_2), (0, .ref (adr X.G a 6 0)), (2, .int x2)] (by decide) rfl ?_
      obtain ⟨x_3, h_x_3⟩ : ∃ z : Int32, z = x2 + 1 := ⟨_, rfl⟩
      have h := h x_3 h_x_3
      refine k_iincw hC (pc := 21) dX12_calls_21 2 rfl ic_1 h_x_3.symm [(2, .int x_3), (1, .int x_2), (0, .ref (adr X.G a 6 0))] (by decide) rfl ?_
      refine k_goto hC (pc := 24) 4 dX12_calls_24 (by decide) ?_
      refine k_sub [(0, .ref (adr X.G a 6 0)), (1, .int x_2), (2, .int x_3)] [2, 1, 0] rfl ?_
      exact ih _ _ _ h
set_option maxHeartbeats 4000000 in
theorem b_X12_calls {X : Kx} {a : Ax} {N : Nat} {post : Int32 → Sx → Prop} (hC : Cx X cX12_calls 3 RX12) (hR : X.R = { frames := 0, cells := 0, slots := 0, locals := 0 }) (hQ : X.Q = MQ X.below (Qi X.G a post) X.av X.s 0 0 (bs_ X.G)) (hr : X.meth.sig.returnType = (some .int)) (hn : X.meth.name = "calls") (s : Sx) (h : w_X12_calls N s post) : wk X a s 3 0 [(0, .ref (adr X.G a 6 0))] [] 0 0 := by
  unfold w_X12_calls at h
  refine k_iconst hC (pc := 0) (v := 1) dX12_calls_0 ic_1 ?_
  refine k_istore_n hC (pc := 1) dX12_calls_1 [(1, .int 1), (0, .ref (adr X.G a 6 0))] (by decide) rfl ?_
  refine k_iconst hC (pc := 2) (v := 0) dX12_calls_2 ic_0 ?_
  refine k_istore_n hC (pc := 3) dX12_calls_3 [(2, .int 0), (1, .int 1), (0, .ref (adr X.G a 6 0))] (by decide) rfl ?_
  refine k_sub [(0, .ref (adr X.G a 6 0)), (1, .int 1), (2, .int 0)] [2, 1, 0] rfl ?_
  exact b_X12_calls_4 hC hR hQ hr N _ _ _ h
theorem ct_X12_calls {l : Launch} {G : Gx} {a : Ax} {s : Sx} {N : Nat} {post : Int32 → Sx → Prop} (h : w_X12_calls N s post) : Met l yX12_calls (Cond.code yX12_calls cX12_calls 3 (some .int) :: gw) { frames := 0, cells := 0, slots := 0, locals := 0 } (va_Pc [.ref (adr G a 6 0)] (fun U => FU G a s U)) (Qi G a post) 0 0 (bs_ G) := met_of (plainFor_of_name (by decide)) (Nat.le_of_ble_eq_true rfl) rfl (fun X hC hl hR hQ hr hG hn => by subst hG; exact b_X12_calls hC hR hQ hr hn s h)
theorem ca_X12_calls : Ca yX12_calls cX12_calls 3 (some .int) 0 := ⟨cd_X12_calls, ii_RX12, by decide, by decide, by decide +kernel⟩
def w_X12_layCall_9 (N : Nat) (post : Sx → Prop) : Nat → Sx → Int32 → Int32 → Prop
  | 0, _, _, _ => False
  | n + 1, s, x2, x3 => (x3 < 0 → post s) ∧ (¬ (x3 < 0) → ¬ ((s.1 6 0 55) + 1) = 0 ∧ vp_in x3 7 ∧ ∀ s_5, s_5 = setI s 5 61 x3.toNatClampNeg (x2 - x2 / ((s.1 6 0 55) + 1) * ((s.1 6 0 55) + 1)) → ¬ ((s_5.1 6 0 55) + 1) = 0 ∧ ∀ x_7 : Int32, x_7 = x2 / ((s_5.1 6 0 55) + 1) → ∀ x_8 : Int32, x_8 = x3 + (-1) → w_X12_layCall_9 N post n s_5 x_7 x_8)
def w_X12_layCall (N : Nat) (x1 : Int32) (s : Sx) (post : Sx → Prop) : Prop := ∀ x_1 : Int32, x_1 = (s.1 6 0 5) - 1 → w_X12_layCall_9 N post N s x1 x_1
set_option maxHeartbeats 4000000 in
theorem b_X12_layCall_9 {X : Kx} {a : Ax} {N : Nat} {post : Sx → Prop}  (hC : Cx X cX12_layCall 4 RX12) (hR : X.R = { frames := 0, cells := 0, slots := 0, locals := 0 }) (hQ : X.Q = MQ X.below (Qv X.G a post) X.av X.s 0 0 (bs_ X.G)) (hr : X.meth.sig.returnType = none)   : ∀ (n : Nat) (s : Sx) (x2 : Int32) (x3 : Int32), w_X12_layCall_9 N post  n s x2 x3 → wk X a s 4 9 [(0, .ref (adr X.G a 6 0)), (2, .int x2), (3, .int x3)] [] 0 0 := by
  intro n
  induction n with
  | zero => intro s x2 x3 h; exact h.elim
  | succ n ih =>
    intro s x2 x3 h
    unfold w_X12_layCall_9 at h
    refine k_iload_n hC (pc := 9) dX12_layCall_9 2 rfl ?_
    refine k_if_lt hC (pc := 10) 42 dX12_layCall_10 (by decide) (fun c_2 => ?_) (fun c_2 => ?_)
    · have h := h.1 c_2
      exact k_vret hC (pc := 42) hQ hr dX12_layCall_42 h
    · have h := h.2 c_2
      refine k_aload_n hC (pc := 13) dX12_layCall_13 0 rfl ?_
      refine gf_X12_61 hC (pc := 14)  fl_RX12_152 dX12_layCall_14 ?_
      refine k_iload_n hC (pc := 17) dX12_layCall_17 2 rfl ?_
      refine k_iload_n hC (pc := 18) dX12_layCall_18 1 rfl ?_
      refine k_aload_n hC (pc := 19) dX12_layCall_19 0 rfl ?_
      refine gf_X12_55 hC (pc := 20)  fl_RX12_291 dX12_layCall_20 ?_
      refine k_iconst hC (pc := 23) (v := 1) dX12_layCall_23 ic_1 ?_
      refine k_iadd hC (pc := 24) dX12_layCall_24 ?_
      obtain ⟨c_3, h⟩ := h
      refine k_irem hC (pc := 25) dX12_layCall_25 c_3 ?_
      obtain ⟨c_4, h⟩ := h
      refine r_iast hC (pc := 26) ra5_61 c_4 dX12_layCall_26 (fun s_5 h_s_5 => ?_)
      have h := h s_5 h_s_5
      refine k_iload_n hC (pc := 27) dX12_layCall_27 1 rfl ?_
      refine k_aload_n hC (pc := 28) dX12_layCall_28 0 rfl ?_
      refine gf_X12_55 hC (pc := 29)  fl_RX12_291 dX12_layCall_29 ?_
      refine k_iconst hC (pc := 32) (v := 1) dX12_layCall_32 ic_1 ?_
      refine k_iadd hC (pc := 33) dX12_layCall_33 ?_
      obtain ⟨c_6, h⟩ := h
      refine k_idiv hC (pc := 34) dX12_layCall_34 c_6 ?_
      refine k_topi (fun x_7 h_x_7 => ?_)
      have h := h x_7 h_x_7
      refine k_istore_n hC (pc := 35) dX12_layCall_35 [(2, .int x_7), (0, .ref (adr X.G a 6 0)), (3, .int x3)] (by decide) rfl ?_
      obtain ⟨x_8, h_x_8⟩ : ∃ z : Int32, z = x3 + (-1) := ⟨_, rfl⟩
      have h := h x_8 h_x_8
      refine k_iincw hC (pc := 36) dX12_layCall_36 2 rfl ic_m1 h_x_8.symm [(3, .int x_8), (2, .int x_7), (0, .ref (adr X.G a 6 0))] (by decide) rfl ?_
      refine k_goto hC (pc := 39) 9 dX12_layCall_39 (by decide) ?_
      refine k_sub [(0, .ref (adr X.G a 6 0)), (2, .int x_7), (3, .int x_8)] [2, 1, 0] rfl ?_
      exact ih _ _ _ h
set_option maxHeartbeats 4000000 in
theorem b_X12_layCall {X : Kx} {a : Ax} {N : Nat} {post : Sx → Prop} (hC : Cx X cX12_layCall 4 RX12) (hR : X.R = { frames := 0, cells := 0, slots := 0, locals := 0 }) (hQ : X.Q = MQ X.below (Qv X.G a post) X.av X.s 0 0 (bs_ X.G)) (hr : X.meth.sig.returnType = none) (hn : X.meth.name = "layCall") (s : Sx) (x1 : Int32) (h : w_X12_layCall N x1 s post) : wk X a s 4 0 [(0, .ref (adr X.G a 6 0)), (1, .int x1)] [] 0 0 := by
  unfold w_X12_layCall at h
  refine k_iload_n hC (pc := 0) dX12_layCall_0 1 rfl ?_
  refine k_istore_n hC (pc := 1) dX12_layCall_1 [(2, .int x1), (0, .ref (adr X.G a 6 0)), (1, .int x1)] (by decide) rfl ?_
  refine k_aload_n hC (pc := 2) dX12_layCall_2 1 rfl ?_
  refine gf_X12_5 hC (pc := 3)  fl_RX12_190 dX12_layCall_3 ?_
  refine k_iconst hC (pc := 6) (v := 1) dX12_layCall_6 ic_1 ?_
  refine k_isub hC (pc := 7) dX12_layCall_7 ?_
  refine k_topi (fun x_1 h_x_1 => ?_)
  have h := h x_1 h_x_1
  refine k_istore_n hC (pc := 8) dX12_layCall_8 [(3, .int x_1), (2, .int x1), (0, .ref (adr X.G a 6 0)), (1, .int x1)] (by decide) rfl ?_
  refine k_sub [(0, .ref (adr X.G a 6 0)), (2, .int x1), (3, .int x_1)] [2, 1, 0] rfl ?_
  exact b_X12_layCall_9 hC hR hQ hr N _ _ _ h
theorem ct_X12_layCall {l : Launch} {G : Gx} {a : Ax} {s : Sx} {N : Nat} {post : Sx → Prop} (x1 : Int32) (h : w_X12_layCall N x1 s post) : Met l yX12_layCall (Cond.code yX12_layCall cX12_layCall 4 none :: gw) { frames := 0, cells := 0, slots := 0, locals := 0 } (va_Pc [.ref (adr G a 6 0), .int x1] (fun U => FU G a s U)) (Qv G a post) 0 0 (bs_ G) := met_of (plainFor_of_name (by decide)) (Nat.le_of_ble_eq_true rfl) rfl (fun X hC hl hR hQ hr hG hn => by subst hG; exact b_X12_layCall hC hR hQ hr hn s x1 h)
theorem ca_X12_layCall : Ca yX12_layCall cX12_layCall 4 none 1 := ⟨cd_X12_layCall, ii_RX12, by decide, by decide, by decide +kernel⟩
def w_X12_heldIn_116 (N : Nat) (post : Int32 → Sx → Prop) (K45 : Sx → Int32 → Int32 → Int32 → Prop) (K67 : Sx → Int32 → Int32 → Int32 → Int32 → Int32 → Prop) (s : Sx) (x1 : Int32) (x2 : Int32) (x3 : Int32) (x5 : Int32) (z0 : Int32) : Prop := ∀ x_11 : Int32, x_11 = z0 + 0 → ∀ x_12 : Int32, x_12 = x5 + 1 → K67 s x1 x2 x3 x_11 x_12
def w_X12_heldIn_67 (N : Nat) (post : Int32 → Sx → Prop) (K45 : Sx → Int32 → Int32 → Int32 → Prop) : Nat → Sx → Int32 → Int32 → Int32 → Int32 → Int32 → Prop
  | 0, _, _, _, _, _, _ => False
  | n + 1, s, x1, x2, x3, x4, x5 => ((s.1 6 0 5) ≤ x5 → vp_in x1 3 ∧ (x4 < (s.1 5 58 x1.toNatClampNeg) → ∀ x_8 : Int32, x_8 = x3 + 1 → K45 s x1 x2 x_8) ∧ (¬ (x4 < (s.1 5 58 x1.toNatClampNeg)) → post x3 s)) ∧ (¬ ((s.1 6 0 5) ≤ x5) → vp_in x5 7 ∧ (¬ (s.1 5 61 x5.toNatClampNeg) = (x1 + 1) → w_X12_heldIn_116 N post K45 (w_X12_heldIn_67 N post K45 n) s x1 x2 x3 x5 x4) ∧ (¬ (¬ (s.1 5 61 x5.toNatClampNeg) = (x1 + 1)) → vp_in ((3 * x5) + x1) 21 ∧ (x3 < (s.1 5 62 ((3 * x5) + x1).toNatClampNeg) → w_X12_heldIn_116 N post K45 (w_X12_heldIn_67 N post K45 n) s x1 x2 x3 x5 x4) ∧ (¬ (x3 < (s.1 5 62 ((3 * x5) + x1).toNatClampNeg)) → vp_in x5 7 ∧ ∀ x_16 : Int32, x_16 = x4 + (s.1 5 60 x5.toNatClampNeg) → ∀ x_17 : Int32, x_17 = x5 + 1 → w_X12_heldIn_67 N post K45 n s x1 x2 x3 x_16 x_17)))
def w_X12_heldIn_45 (N : Nat) (post : Int32 → Sx → Prop) : Nat → Sx → Int32 → Int32 → Int32 → Prop
  | 0, _, _, _, _ => False
  | n + 1, s, x1, x2, x3 => (24 ≤ x3 → post 24 s) ∧ (¬ (24 ≤ x3) → vp_in x1 3 ∧ (x2 < (s.1 5 58 x1.toNatClampNeg) → post 24 s) ∧ (¬ (x2 < (s.1 5 58 x1.toNatClampNeg)) → w_X12_heldIn_67 N post (w_X12_heldIn_45 N post n) N s x1 x2 x3 0 0))
def w_X12_heldIn_4 (N : Nat) (post : Int32 → Sx → Prop) : Nat → Sx → Int32 → Int32 → Int32 → Prop
  | 0, _, _, _, _ => False
  | n + 1, s, x1, x2, x3 => ((s.1 6 0 5) ≤ x3 → w_X12_heldIn_45 N post N s x1 x2 0) ∧ (¬ ((s.1 6 0 5) ≤ x3) → vp_in x3 7 ∧ (¬ (s.1 5 61 x3.toNatClampNeg) = (x1 + 1) → ∀ x_20 : Int32, x_20 = x2 + 0 → ∀ x_21 : Int32, x_21 = x3 + 1 → w_X12_heldIn_4 N post n s x1 x_20 x_21) ∧ (¬ (¬ (s.1 5 61 x3.toNatClampNeg) = (x1 + 1)) → vp_in x3 7 ∧ ∀ x_23 : Int32, x_23 = x2 + (s.1 5 60 x3.toNatClampNeg) → ∀ x_24 : Int32, x_24 = x3 + 1 → w_X12_heldIn_4 N post n s x1 x_23 x_24))
def w_X12_heldIn (N : Nat) (x1 : Int32) (s : Sx) (post : Int32 → Sx → Prop) : Prop := w_X12_heldIn_4 N post N s x1 0 0
set_option maxHeartbeats 4000000 in
theorem b_X12_heldIn_116 {X : Kx} {a : Ax} {N : Nat} {post : Int32 → Sx → Prop} {K45 : Sx → Int32 → Int32 → Int32 → Prop} {K67 : Sx → Int32 → Int32 → Int32 → Int32 → Int32 → Prop}  (hC : Cx X cX12_heldIn 6 RX12) (hR : X.R = { frames := 0, cells := 0, slots := 0, locals := 0 }) (hQ : X.Q = MQ X.below (Qi X.G a post) X.av X.s 0 0 (bs_ X.G)) (hr : X.meth.sig.returnType = (some .int))  (hK45 : ∀ (s : Sx) (x1 : Int32) (x2 : Int32) (x3 : Int32), K45 s x1 x2 x3 → wk X a s 6 45 [(0, .ref (adr X.G a 6 0)), (1, .int x1), (2, .int x2), (3, .int x3)] [] 0 0) (hK67 : ∀ (s : Sx) (x1 : Int32) (x2 : Int32) (x3 : Int32) (x4 : Int32) (x5 : Int32), K67 s x1 x2 x3 x4 x5 → wk X a s 6 67 [(0, .ref (adr X.G a 6 0)), (1, .int x1), (2, .int x2), (3, .int x3), (4, .int x4), (5, .int x5)] [] 0 0) (s : Sx) (x1 : Int32) (x2 : Int32) (x3 : Int32) (x5 : Int32) (z0 : Int32) (h : w_X12_heldIn_116 N post K45 K67 s x1 x2 x3 x5 z0) : wk X a s 6 116 [(0, .ref (adr X.G a 6 0)), (1, .int x1), (2, .int x2), (3, .int x3), (5, .int x5)] [.int z0] 0 0 := by
  unfold w_X12_heldIn_116 at h
  refine k_iconst hC (pc := 116) (v := 0) dX12_heldIn_116 ic_0 ?_
  refine k_iadd hC (pc := 117) dX12_heldIn_117 ?_
  refine k_topi (fun x_11 h_x_11 => ?_)
  have h := h x_11 h_x_11
  refine k_istore hC (pc := 118) dX12_heldIn_118 [(4, .int x_11), (0, .ref (adr X.G a 6 0)), (1, .int x1), (2, .int x2), (3, .int x3), (5, .int x5)] (by decide) rfl ?_
  obtain ⟨x_12, h_x_12⟩ : ∃ z : Int32, z = x5 + 1 := ⟨_, rfl⟩
  have h := h x_12 h_x_12
  refine k_iincw hC (pc := 120) dX12_heldIn_120 5 rfl ic_1 h_x_12.symm [(5, .int x_12), (4, .int x_11), (0, .ref (adr X.G a 6 0)), (1, .int x1), (2, .int x2), (3, .int x3)] (by decide) rfl ?_
  refine k_goto hC (pc := 123) 67 dX12_heldIn_123 (by decide) ?_
  refine k_sub [(0, .ref (adr X.G a 6 0)), (1, .int x1), (2, .int x2), (3, .int x3), (4, .int x_11), (5, .int x_12)] [2, 3, 4, 5, 1, 0] rfl ?_
  exact hK67 _ _ _ _ _ _ h
set_option maxHeartbeats 4000000 in
theorem b_X12_heldIn_67 {X : Kx} {a : Ax} {N : Nat} {post : Int32 → Sx → Prop} {K45 : Sx → Int32 → Int32 → Int32 → Prop}  (hC : Cx X cX12_heldIn 6 RX12) (hR : X.R = { frames := 0, cells := 0, slots := 0, locals := 0 }) (hQ : X.Q = MQ X.below (Qi X.G a post) X.av X.s 0 0 (bs_ X.G)) (hr : X.meth.sig.returnType = (some .int))  (hK45 : ∀ (s : Sx) (x1 : Int32) (x2 : Int32) (x3 : Int32), K45 s x1 x2 x3 → wk X a s 6 45 [(0, .ref (adr X.G a 6 0)), (1, .int x1), (2, .int x2), (3, .int x3)] [] 0 0) : ∀ (n : Nat) (s : Sx) (x1 : Int32) (x2 : Int32) (x3 : Int32) (x4 : Int32) (x5 : Int32), w_X12_heldIn_67 N post K45 n s x1 x2 x3 x4 x5 → wk X a s 6 67 [(0, .ref (adr X.G a 6 0)), (1, .int x1), (2, .int x2), (3, .int x3), (4, .int x4), (5, .int x5)] [] 0 0 := by
  intro n
  induction n with
  | zero => intro s x1 x2 x3 x4 x5 h; exact h.elim
  | succ n ih =>
    intro s x1 x2 x3 x4 x5 h
    unfold w_X12_heldIn_67 at h
    refine k_iload hC (pc := 67) dX12_heldIn_67 5 rfl ?_
    refine k_aload_n hC (pc := 69) dX12_heldIn_69 0 rfl ?_
    refine gf_X12_5 hC (pc := 70)  fl_RX12_190 dX12_heldIn_70 ?_
    refine k_icmp_ge hC (pc := 73) 126 dX12_heldIn_73 (by decide) (fun c_5 => ?_) (fun c_5 => ?_)
    · have h := h.1 c_5
      refine k_iload hC (pc := 126) dX12_heldIn_126 4 rfl ?_
      refine k_aload_n hC (pc := 128) dX12_heldIn_128 0 rfl ?_
      refine gf_X12_58 hC (pc := 129)  fl_RX12_143 dX12_heldIn_129 ?_
      refine k_iload_n hC (pc := 132) dX12_heldIn_132 1 rfl ?_
      obtain ⟨c_6, h⟩ := h
      refine r_iald hC (pc := 133) ra5_58 c_6 dX12_heldIn_133 ?_
      refine k_icmp_lt hC (pc := 134) 139 dX12_heldIn_134 (by decide) (fun c_7 => ?_) (fun c_7 => ?_)
      · have h := h.1 c_7
        obtain ⟨x_8, h_x_8⟩ : ∃ z : Int32, z = x3 + 1 := ⟨_, rfl⟩
        have h := h x_8 h_x_8
        refine k_iincw hC (pc := 139) dX12_heldIn_139 3 rfl ic_1 h_x_8.symm [(3, .int x_8), (0, .ref (adr X.G a 6 0)), (1, .int x1), (2, .int x2), (4, .int x4), (5, .int x5)] (by decide) rfl ?_
        refine k_goto hC (pc := 142) 45 dX12_heldIn_142 (by decide) ?_
        refine k_sub [(0, .ref (adr X.G a 6 0)), (1, .int x1), (2, .int x2), (3, .int x_8)] [1, 2, 3, 0] rfl ?_
        exact hK45 _ _ _ _ h
      · have h := h.2 c_7
        refine k_iload_n hC (pc := 137) dX12_heldIn_137 3 rfl ?_
        exact k_iret hC (pc := 138) hQ hr dX12_heldIn_138 h
    · have h := h.2 c_5
      refine k_iload hC (pc := 76) dX12_heldIn_76 4 rfl ?_
      refine k_aload_n hC (pc := 78) dX12_heldIn_78 0 rfl ?_
      refine gf_X12_61 hC (pc := 79)  fl_RX12_152 dX12_heldIn_79 ?_
      refine k_iload hC (pc := 82) dX12_heldIn_82 5 rfl ?_
      obtain ⟨c_9, h⟩ := h
      refine r_iald hC (pc := 84) ra5_61 c_9 dX12_heldIn_84 ?_
      refine k_iload_n hC (pc := 85) dX12_heldIn_85 1 rfl ?_
      refine k_iconst hC (pc := 86) (v := 1) dX12_heldIn_86 ic_1 ?_
      refine k_iadd hC (pc := 87) dX12_heldIn_87 ?_
      refine k_icmp_ne hC (pc := 88) 116 dX12_heldIn_88 (by decide) (fun c_10 => ?_) (fun c_10 => ?_)
      · have h := h.1 c_10
        refine k_sub [(0, .ref (adr X.G a 6 0)), (1, .int x1), (2, .int x2), (3, .int x3), (5, .int x5)] [0, 1, 2, 3, 5] rfl ?_
        exact b_X12_heldIn_116 hC hR hQ hr hK45 ih _ _ _ _ _ _ h
      · have h := h.2 c_10
        refine k_aload_n hC (pc := 91) dX12_heldIn_91 0 rfl ?_
        refine gf_X12_62 hC (pc := 92)  fl_RX12_155 dX12_heldIn_92 ?_
        refine k_iconst hC (pc := 95) (v := 3) dX12_heldIn_95 ic_3 ?_
        refine k_iload hC (pc := 96) dX12_heldIn_96 5 rfl ?_
        refine k_imul hC (pc := 98) dX12_heldIn_98 ?_
        refine k_iload_n hC (pc := 99) dX12_heldIn_99 1 rfl ?_
        refine k_iadd hC (pc := 100) dX12_heldIn_100 ?_
        obtain ⟨c_13, h⟩ := h
        refine r_iald hC (pc := 101) ra5_62 c_13 dX12_heldIn_101 ?_
        refine k_iload_n hC (pc := 102) dX12_heldIn_102 3 rfl ?_
        refine k_icmp_gt hC (pc := 103) 116 dX12_heldIn_103 (by decide) (fun c_14 => ?_) (fun c_14 => ?_)
        · have h := h.1 c_14
          refine k_sub [(0, .ref (adr X.G a 6 0)), (1, .int x1), (2, .int x2), (3, .int x3), (5, .int x5)] [0, 1, 2, 3, 5] rfl ?_
          exact b_X12_heldIn_116 hC hR hQ hr hK45 ih _ _ _ _ _ _ h
        · have h := h.2 c_14
          refine k_aload_n hC (pc := 106) dX12_heldIn_106 0 rfl ?_
          refine gf_X12_60 hC (pc := 107)  fl_RX12_149 dX12_heldIn_107 ?_
          refine k_iload hC (pc := 110) dX12_heldIn_110 5 rfl ?_
          obtain ⟨c_15, h⟩ := h
          refine r_iald hC (pc := 112) ra5_60 c_15 dX12_heldIn_112 ?_
          refine k_goto hC (pc := 113) 117 dX12_heldIn_113 (by decide) ?_
          refine k_iadd hC (pc := 117) dX12_heldIn_117 ?_
          refine k_topi (fun x_16 h_x_16 => ?_)
          have h := h x_16 h_x_16
          refine k_istore hC (pc := 118) dX12_heldIn_118 [(4, .int x_16), (0, .ref (adr X.G a 6 0)), (1, .int x1), (2, .int x2), (3, .int x3), (5, .int x5)] (by decide) rfl ?_
          obtain ⟨x_17, h_x_17⟩ : ∃ z : Int32, z = x5 + 1 := ⟨_, rfl⟩
          have h := h x_17 h_x_17
          refine k_iincw hC (pc := 120) dX12_heldIn_120 5 rfl ic_1 h_x_17.symm [(5, .int x_17), (4, .int x_16), (0, .ref (adr X.G a 6 0)), (1, .int x1), (2, .int x2), (3, .int x3)] (by decide) rfl ?_
          refine k_goto hC (pc := 123) 67 dX12_heldIn_123 (by decide) ?_
          refine k_sub [(0, .ref (adr X.G a 6 0)), (1, .int x1), (2, .int x2), (3, .int x3), (4, .int x_16), (5, .int x_17)] [2, 3, 4, 5, 1, 0] rfl ?_
          exact ih _ _ _ _ _ _ h
set_option maxHeartbeats 4000000 in
theorem b_X12_heldIn_45 {X : Kx} {a : Ax} {N : Nat} {post : Int32 → Sx → Prop}  (hC : Cx X cX12_heldIn 6 RX12) (hR : X.R = { frames := 0, cells := 0, slots := 0, locals := 0 }) (hQ : X.Q = MQ X.below (Qi X.G a post) X.av X.s 0 0 (bs_ X.G)) (hr : X.meth.sig.returnType = (some .int))   : ∀ (n : Nat) (s : Sx) (x1 : Int32) (x2 : Int32) (x3 : Int32), w_X12_heldIn_45 N post  n s x1 x2 x3 → wk X a s 6 45 [(0, .ref (adr X.G a 6 0)), (1, .int x1), (2, .int x2), (3, .int x3)] [] 0 0 := by
  intro n
  induction n with
  | zero => intro s x1 x2 x3 h; exact h.elim
  | succ n ih =>
    intro s x1 x2 x3 h
    unfold w_X12_heldIn_45 at h
    refine k_iload_n hC (pc := 45) dX12_heldIn_45 3 rfl ?_
    refine k_bipush hC (pc := 46) (v := 24) dX12_heldIn_46 bp_24 ?_
    refine k_icmp_ge hC (pc := 48) 145 dX12_heldIn_48 (by decide) (fun c_2 => ?_) (fun c_2 => ?_)
    · have h := h.1 c_2
      refine k_bipush hC (pc := 145) (v := 24) dX12_heldIn_145 bp_24 ?_
      exact k_iret hC (pc := 147) hQ hr dX12_heldIn_147 h
    · have h := h.2 c_2
      refine k_iload_n hC (pc := 51) dX12_heldIn_51 2 rfl ?_
      refine k_aload_n hC (pc := 52) dX12_heldIn_52 0 rfl ?_
      refine gf_X12_58 hC (pc := 53)  fl_RX12_143 dX12_heldIn_53 ?_
      refine k_iload_n hC (pc := 56) dX12_heldIn_56 1 rfl ?_
      obtain ⟨c_3, h⟩ := h
      refine r_iald hC (pc := 57) ra5_58 c_3 dX12_heldIn_57 ?_
      refine k_icmp_lt hC (pc := 58) 145 dX12_heldIn_58 (by decide) (fun c_4 => ?_) (fun c_4 => ?_)
      · have h := h.1 c_4
        refine k_bipush hC (pc := 145) (v := 24) dX12_heldIn_145 bp_24 ?_
        exact k_iret hC (pc := 147) hQ hr dX12_heldIn_147 h
      · have h := h.2 c_4
        refine k_iconst hC (pc := 61) (v := 0) dX12_heldIn_61 ic_0 ?_
        refine k_istore hC (pc := 62) dX12_heldIn_62 [(4, .int 0), (0, .ref (adr X.G a 6 0)), (1, .int x1), (2, .int x2), (3, .int x3)] (by decide) rfl ?_
        refine k_iconst hC (pc := 64) (v := 0) dX12_heldIn_64 ic_0 ?_
        refine k_istore hC (pc := 65) dX12_heldIn_65 [(5, .int 0), (4, .int 0), (0, .ref (adr X.G a 6 0)), (1, .int x1), (2, .int x2), (3, .int x3)] (by decide) rfl ?_
        refine k_sub [(0, .ref (adr X.G a 6 0)), (1, .int x1), (2, .int x2), (3, .int x3), (4, .int 0), (5, .int 0)] [2, 3, 4, 5, 1, 0] rfl ?_
        exact b_X12_heldIn_67 hC hR hQ hr ih N _ _ _ _ _ _ h
set_option maxHeartbeats 4000000 in
theorem b_X12_heldIn_4 {X : Kx} {a : Ax} {N : Nat} {post : Int32 → Sx → Prop}  (hC : Cx X cX12_heldIn 6 RX12) (hR : X.R = { frames := 0, cells := 0, slots := 0, locals := 0 }) (hQ : X.Q = MQ X.below (Qi X.G a post) X.av X.s 0 0 (bs_ X.G)) (hr : X.meth.sig.returnType = (some .int))   : ∀ (n : Nat) (s : Sx) (x1 : Int32) (x2 : Int32) (x3 : Int32), w_X12_heldIn_4 N post  n s x1 x2 x3 → wk X a s 6 4 [(0, .ref (adr X.G a 6 0)), (1, .int x1), (2, .int x2), (3, .int x3)] [] 0 0 := by
  intro n
  induction n with
  | zero => intro s x1 x2 x3 h; exact h.elim
  | succ n ih =>
    intro s x1 x2 x3 h
    unfold w_X12_heldIn_4 at h
    refine k_iload_n hC (pc := 4) dX12_heldIn_4 3 rfl ?_
    refine k_aload_n hC (pc := 5) dX12_heldIn_5 0 rfl ?_
    refine gf_X12_5 hC (pc := 6)  fl_RX12_190 dX12_heldIn_6 ?_
    refine k_icmp_ge hC (pc := 9) 43 dX12_heldIn_9 (by decide) (fun c_1 => ?_) (fun c_1 => ?_)
    · have h := h.1 c_1
      refine k_iconst hC (pc := 43) (v := 0) dX12_heldIn_43 ic_0 ?_
      refine k_istore_n hC (pc := 44) dX12_heldIn_44 [(3, .int 0), (0, .ref (adr X.G a 6 0)), (1, .int x1), (2, .int x2)] (by decide) rfl ?_
      refine k_sub [(0, .ref (adr X.G a 6 0)), (1, .int x1), (2, .int x2), (3, .int 0)] [1, 2, 3, 0] rfl ?_
      exact b_X12_heldIn_45 hC hR hQ hr N _ _ _ _ h
    · have h := h.2 c_1
      refine k_iload_n hC (pc := 12) dX12_heldIn_12 2 rfl ?_
      refine k_aload_n hC (pc := 13) dX12_heldIn_13 0 rfl ?_
      refine gf_X12_61 hC (pc := 14)  fl_RX12_152 dX12_heldIn_14 ?_
      refine k_iload_n hC (pc := 17) dX12_heldIn_17 3 rfl ?_
      obtain ⟨c_18, h⟩ := h
      refine r_iald hC (pc := 18) ra5_61 c_18 dX12_heldIn_18 ?_
      refine k_iload_n hC (pc := 19) dX12_heldIn_19 1 rfl ?_
      refine k_iconst hC (pc := 20) (v := 1) dX12_heldIn_20 ic_1 ?_
      refine k_iadd hC (pc := 21) dX12_heldIn_21 ?_
      refine k_icmp_ne hC (pc := 22) 34 dX12_heldIn_22 (by decide) (fun c_19 => ?_) (fun c_19 => ?_)
      · have h := h.1 c_19
        refine k_iconst hC (pc := 34) (v := 0) dX12_heldIn_34 ic_0 ?_
        refine k_iadd hC (pc := 35) dX12_heldIn_35 ?_
        refine k_topi (fun x_20 h_x_20 => ?_)
        have h := h x_20 h_x_20
        refine k_istore_n hC (pc := 36) dX12_heldIn_36 [(2, .int x_20), (0, .ref (adr X.G a 6 0)), (1, .int x1), (3, .int x3)] (by decide) rfl ?_
        obtain ⟨x_21, h_x_21⟩ : ∃ z : Int32, z = x3 + 1 := ⟨_, rfl⟩
        have h := h x_21 h_x_21
        refine k_iincw hC (pc := 37) dX12_heldIn_37 3 rfl ic_1 h_x_21.symm [(3, .int x_21), (2, .int x_20), (0, .ref (adr X.G a 6 0)), (1, .int x1)] (by decide) rfl ?_
        refine k_goto hC (pc := 40) 4 dX12_heldIn_40 (by decide) ?_
        refine k_sub [(0, .ref (adr X.G a 6 0)), (1, .int x1), (2, .int x_20), (3, .int x_21)] [2, 3, 1, 0] rfl ?_
        exact ih _ _ _ _ h
      · have h := h.2 c_19
        refine k_aload_n hC (pc := 25) dX12_heldIn_25 0 rfl ?_
        refine gf_X12_60 hC (pc := 26)  fl_RX12_149 dX12_heldIn_26 ?_
        refine k_iload_n hC (pc := 29) dX12_heldIn_29 3 rfl ?_
        obtain ⟨c_22, h⟩ := h
        refine r_iald hC (pc := 30) ra5_60 c_22 dX12_heldIn_30 ?_
        refine k_goto hC (pc := 31) 35 dX12_heldIn_31 (by decide) ?_
        refine k_iadd hC (pc := 35) dX12_heldIn_35 ?_
        refine k_topi (fun x_23 h_x_23 => ?_)
        have h := h x_23 h_x_23
        refine k_istore_n hC (pc := 36) dX12_heldIn_36 [(2, .int x_23), (0, .ref (adr X.G a 6 0)), (1, .int x1), (3, .int x3)] (by decide) rfl ?_
        obtain ⟨x_24, h_x_24⟩ : ∃ z : Int32, z = x3 + 1 := ⟨_, rfl⟩
        have h := h x_24 h_x_24
        refine k_iincw hC (pc := 37) dX12_heldIn_37 3 rfl ic_1 h_x_24.symm [(3, .int x_24), (2, .int x_23), (0, .ref (adr X.G a 6 0)), (1, .int x1)] (by decide) rfl ?_
        refine k_goto hC (pc := 40) 4 dX12_heldIn_40 (by decide) ?_
        refine k_sub [(0, .ref (adr X.G a 6 0)), (1, .int x1), (2, .int x_23), (3, .int x_24)] [2, 3, 1, 0] rfl ?_
        exact ih _ _ _ _ h
set_option maxHeartbeats 4000000 in
theorem b_X12_heldIn {X : Kx} {a : Ax} {N : Nat} {post : Int32 → Sx → Prop} (hC : Cx X cX12_heldIn 6 RX12) (hR : X.R = { frames := 0, cells := 0, slots := 0, locals := 0 }) (hQ : X.Q = MQ X.below (Qi X.G a post) X.av X.s 0 0 (bs_ X.G)) (hr : X.meth.sig.returnType = (some .int)) (hn : X.meth.name = "heldIn") (s : Sx) (x1 : Int32) (h : w_X12_heldIn N x1 s post) : wk X a s 6 0 [(0, .ref (adr X.G a 6 0)), (1, .int x1)] [] 0 0 := by
  unfold w_X12_heldIn at h
  refine k_iconst hC (pc := 0) (v := 0) dX12_heldIn_0 ic_0 ?_
  refine k_istore_n hC (pc := 1) dX12_heldIn_1 [(2, .int 0), (0, .ref (adr X.G a 6 0)), (1, .int x1)] (by decide) rfl ?_
  refine k_iconst hC (pc := 2) (v := 0) dX12_heldIn_2 ic_0 ?_
  refine k_istore_n hC (pc := 3) dX12_heldIn_3 [(3, .int 0), (2, .int 0), (0, .ref (adr X.G a 6 0)), (1, .int x1)] (by decide) rfl ?_
  refine k_sub [(0, .ref (adr X.G a 6 0)), (1, .int x1), (2, .int 0), (3, .int 0)] [2, 3, 1, 0] rfl ?_
  exact b_X12_heldIn_4 hC hR hQ hr N _ _ _ _ h
theorem ct_X12_heldIn {l : Launch} {G : Gx} {a : Ax} {s : Sx} {N : Nat} {post : Int32 → Sx → Prop} (x1 : Int32) (h : w_X12_heldIn N x1 s post) : Met l yX12_heldIn (Cond.code yX12_heldIn cX12_heldIn 6 (some .int) :: gw) { frames := 0, cells := 0, slots := 0, locals := 0 } (va_Pc [.ref (adr G a 6 0), .int x1] (fun U => FU G a s U)) (Qi G a post) 0 0 (bs_ G) := met_of (plainFor_of_name (by decide)) (Nat.le_of_ble_eq_true rfl) rfl (fun X hC hl hR hQ hr hG hn => by subst hG; exact b_X12_heldIn hC hR hQ hr hn s x1 h)
theorem ca_X12_heldIn : Ca yX12_heldIn cX12_heldIn 6 (some .int) 1 := ⟨cd_X12_heldIn, ii_RX12, by decide, by decide, by decide +kernel⟩
def w_X12_lostBy_9 (N : Nat) (post : Int32 → Sx → Prop) : Nat → Sx → Int32 → Int32 → Prop
  | 0, _, _, _ => False
  | n + 1, s, x2, x3 => ((s.1 6 0 55) ≤ x3 → post x2 s) ∧ (¬ ((s.1 6 0 55) ≤ x3) → vp_in x3 3 ∧ w_X12_heldIn N x3 s (fun r_5 s_4 => ∀ x_6 : Int32, x_6 = x2 + ((s.1 5 59 x3.toNatClampNeg) * r_5) → ∀ x_7 : Int32, x_7 = x3 + 1 → w_X12_lostBy_9 N post n s_4 x_6 x_7))
def w_X12_lostBy (N : Nat) (x1 : Int32) (s : Sx) (post : Int32 → Sx → Prop) : Prop := w_X12_layCall N x1 s (fun s_1 => w_X12_lostBy_9 N post N s_1 0 0)
set_option maxHeartbeats 4000000 in
theorem b_X12_lostBy_9 {X : Kx} {a : Ax} {N : Nat} {post : Int32 → Sx → Prop}  (hC : Cx X cX12_lostBy 4 RX12) (hR : X.R = { frames := 1, cells := 0, slots := 0, locals := 25 }) (hQ : X.Q = MQ X.below (Qi X.G a post) X.av X.s 0 0 (bs_ X.G)) (hr : X.meth.sig.returnType = (some .int))   : ∀ (n : Nat) (s : Sx) (x2 : Int32) (x3 : Int32), w_X12_lostBy_9 N post  n s x2 x3 → wk X a s 4 9 [(0, .ref (adr X.G a 6 0)), (2, .int x2), (3, .int x3)] [] 0 0 := by
  intro n
  induction n with
  | zero => intro s x2 x3 h; exact h.elim
  | succ n ih =>
    intro s x2 x3 h
    unfold w_X12_lostBy_9 at h
    refine k_iload_n hC (pc := 9) dX12_lostBy_9 2 rfl ?_
    refine k_aload_n hC (pc := 10) dX12_lostBy_10 0 rfl ?_
    refine gf_X12_55 hC (pc := 11)  fl_RX12_291 dX12_lostBy_11 ?_
    refine k_icmp_ge hC (pc := 14) 38 dX12_lostBy_14 (by decide) (fun c_2 => ?_) (fun c_2 => ?_)
    · have h := h.1 c_2
      refine k_iload_n hC (pc := 38) dX12_lostBy_38 1 rfl ?_
      exact k_iret hC (pc := 39) hQ hr dX12_lostBy_39 h
    · have h := h.2 c_2
      refine k_iload_n hC (pc := 17) dX12_lostBy_17 1 rfl ?_
      refine k_aload_n hC (pc := 18) dX12_lostBy_18 0 rfl ?_
      refine gf_X12_59 hC (pc := 19)  fl_RX12_146 dX12_lostBy_19 ?_
      refine k_iload_n hC (pc := 22) dX12_lostBy_22 2 rfl ?_
      obtain ⟨c_3, h⟩ := h
      refine r_iald hC (pc := 23) ra5_59 c_3 dX12_lostBy_23 ?_
      refine k_aload_n hC (pc := 24) dX12_lostBy_24 0 rfl ?_
      refine k_iload_n hC (pc := 25) dX12_lostBy_25 2 rfl ?_
      refine k_ci (rn_V hC (pc := 26) (As := [.int x3]) (rest := [.int (s.1 5 59 x3.toNatClampNeg), .int x2]) ca_X12_heldIn ml_RX12_301 im_X12_heldIn se_X12_heldIn (fx_in f6_0) (ob6_0 _ _ _ _ _) rfl rfl (ct_X12_heldIn x3 h) (by rw [hR]; exact ⟨rfl, rfl, by decide, by decide⟩) rfl (Nat.le_of_ble_eq_true rfl) dX12_lostBy_26 ⟨by rw [hR]; decide, by rw [hR]; decide⟩) (fun r_5 s_4 h => ?_)
      refine k_imul hC (pc := 29) dX12_lostBy_29 ?_
      refine k_iadd hC (pc := 30) dX12_lostBy_30 ?_
      refine k_topi (fun x_6 h_x_6 => ?_)
      have h := h x_6 h_x_6
      refine k_istore_n hC (pc := 31) dX12_lostBy_31 [(2, .int x_6), (0, .ref (adr X.G a 6 0)), (3, .int x3)] (by decide) rfl ?_
      obtain ⟨x_7, h_x_7⟩ : ∃ z : Int32, z = x3 + 1 := ⟨_, rfl⟩
      have h := h x_7 h_x_7
      refine k_iincw hC (pc := 32) dX12_lostBy_32 2 rfl ic_1 h_x_7.symm [(3, .int x_7), (2, .int x_6), (0, .ref (adr X.G a 6 0))] (by decide) rfl ?_
      refine k_goto hC (pc := 35) 9 dX12_lostBy_35 (by decide) ?_
      refine k_sub [(0, .ref (adr X.G a 6 0)), (2, .int x_6), (3, .int x_7)] [2, 1, 0] rfl ?_
      exact ih _ _ _ h
set_option maxHeartbeats 4000000 in
theorem b_X12_lostBy {X : Kx} {a : Ax} {N : Nat} {post : Int32 → Sx → Prop} (hC : Cx X cX12_lostBy 4 RX12) (hR : X.R = { frames := 1, cells := 0, slots := 0, locals := 25 }) (hQ : X.Q = MQ X.below (Qi X.G a post) X.av X.s 0 0 (bs_ X.G)) (hr : X.meth.sig.returnType = (some .int)) (hn : X.meth.name = "lostBy") (s : Sx) (x1 : Int32) (h : w_X12_lostBy N x1 s post) : wk X a s 4 0 [(0, .ref (adr X.G a 6 0)), (1, .int x1)] [] 0 0 := by
  unfold w_X12_lostBy at h
  refine k_aload_n hC (pc := 0) dX12_lostBy_0 0 rfl ?_
  refine k_iload_n hC (pc := 1) dX12_lostBy_1 1 rfl ?_
  refine k_cv (rn_V hC (pc := 2) (As := [.int x1]) (rest := []) ca_X12_layCall ml_RX12_297 im_X12_layCall se_X12_layCall (fx_in f6_0) (ob6_0 _ _ _ _ _) rfl rfl (ct_X12_layCall x1 h) (by rw [hR]; exact ⟨rfl, rfl, by decide, by decide⟩) rfl (Nat.le_of_ble_eq_true rfl) dX12_lostBy_2 ⟨by rw [hR]; decide, by rw [hR]; decide⟩) (fun s_1 h => ?_)
  refine k_iconst hC (pc := 5) (v := 0) dX12_lostBy_5 ic_0 ?_
  refine k_istore_n hC (pc := 6) dX12_lostBy_6 [(2, .int 0), (0, .ref (adr X.G a 6 0)), (1, .int x1)] (by decide) rfl ?_
  refine k_iconst hC (pc := 7) (v := 0) dX12_lostBy_7 ic_0 ?_
  refine k_istore_n hC (pc := 8) dX12_lostBy_8 [(3, .int 0), (2, .int 0), (0, .ref (adr X.G a 6 0)), (1, .int x1)] (by decide) rfl ?_
  refine k_sub [(0, .ref (adr X.G a 6 0)), (2, .int 0), (3, .int 0)] [2, 1, 0] rfl ?_
  exact b_X12_lostBy_9 hC hR hQ hr N _ _ _ h
theorem ct_X12_lostBy {l : Launch} {G : Gx} {a : Ax} {s : Sx} {N : Nat} {post : Int32 → Sx → Prop} (x1 : Int32) (h : w_X12_lostBy N x1 s post) : Met l yX12_lostBy (Cond.code yX12_lostBy cX12_lostBy 4 (some .int) :: gw) { frames := 1, cells := 0, slots := 0, locals := 25 } (va_Pc [.ref (adr G a 6 0), .int x1] (fun U => FU G a s U)) (Qi G a post) 0 0 (bs_ G) := met_of (plainFor_of_name (by decide)) (Nat.le_of_ble_eq_true rfl) rfl (fun X hC hl hR hQ hr hG hn => by subst hG; exact b_X12_lostBy hC hR hQ hr hn s x1 h)
theorem ca_X12_lostBy : Ca yX12_lostBy cX12_lostBy 4 (some .int) 1 := ⟨cd_X12_lostBy, ii_RX12, by decide, by decide, by decide +kernel⟩
def w_X12_handsThatGo_4 (N : Nat) (post : Int32 → Sx → Prop) : Nat → Sx → Int32 → Int32 → Prop
  | 0, _, _, _ => False
  | n + 1, s, x1, x2 => ((s.1 6 0 5) ≤ x2 → post x1 s) ∧ (¬ ((s.1 6 0 5) ≤ x2) → vp_in x2 7 ∧ ((s.1 5 61 x2.toNatClampNeg) ≤ 0 → ∀ x_4 : Int32, x_4 = x1 + 0 → ∀ x_5 : Int32, x_5 = x2 + 1 → w_X12_handsThatGo_4 N post n s x_4 x_5) ∧ (¬ ((s.1 5 61 x2.toNatClampNeg) ≤ 0) → vp_in x2 7 ∧ ∀ x_7 : Int32, x_7 = x1 + (s.1 5 60 x2.toNatClampNeg) → ∀ x_8 : Int32, x_8 = x2 + 1 → w_X12_handsThatGo_4 N post n s x_7 x_8))
def w_X12_handsThatGo (N : Nat) (s : Sx) (post : Int32 → Sx → Prop) : Prop := w_X12_handsThatGo_4 N post N s 0 0
set_option maxHeartbeats 4000000 in
theorem b_X12_handsThatGo_4 {X : Kx} {a : Ax} {N : Nat} {post : Int32 → Sx → Prop}  (hC : Cx X cX12_handsThatGo 3 RX12) (hR : X.R = { frames := 0, cells := 0, slots := 0, locals := 0 }) (hQ : X.Q = MQ X.below (Qi X.G a post) X.av X.s 0 0 (bs_ X.G)) (hr : X.meth.sig.returnType = (some .int))   : ∀ (n : Nat) (s : Sx) (x1 : Int32) (x2 : Int32), w_X12_handsThatGo_4 N post  n s x1 x2 → wk X a s 3 4 [(0, .ref (adr X.G a 6 0)), (1, .int x1), (2, .int x2)] [] 0 0 := by
  intro n
  induction n with
  | zero => intro s x1 x2 h; exact h.elim
  | succ n ih =>
    intro s x1 x2 h
    unfold w_X12_handsThatGo_4 at h
    refine k_iload_n hC (pc := 4) dX12_handsThatGo_4 2 rfl ?_
    refine k_aload_n hC (pc := 5) dX12_handsThatGo_5 0 rfl ?_
    refine gf_X12_5 hC (pc := 6)  fl_RX12_190 dX12_handsThatGo_6 ?_
    refine k_icmp_ge hC (pc := 9) 40 dX12_handsThatGo_9 (by decide) (fun c_1 => ?_) (fun c_1 => ?_)
    · have h := h.1 c_1
      refine k_iload_n hC (pc := 40) dX12_handsThatGo_40 1 rfl ?_
      exact k_iret hC (pc := 41) hQ hr dX12_handsThatGo_41 h
    · have h := h.2 c_1
      refine k_iload_n hC (pc := 12) dX12_handsThatGo_12 1 rfl ?_
      refine k_aload_n hC (pc := 13) dX12_handsThatGo_13 0 rfl ?_
      refine gf_X12_61 hC (pc := 14)  fl_RX12_152 dX12_handsThatGo_14 ?_
      refine k_iload_n hC (pc := 17) dX12_handsThatGo_17 2 rfl ?_
      obtain ⟨c_2, h⟩ := h
      refine r_iald hC (pc := 18) ra5_61 c_2 dX12_handsThatGo_18 ?_
      refine k_if_le hC (pc := 19) 31 dX12_handsThatGo_19 (by decide) (fun c_3 => ?_) (fun c_3 => ?_)
      · have h := h.1 c_3
        refine k_iconst hC (pc := 31) (v := 0) dX12_handsThatGo_31 ic_0 ?_
        refine k_iadd hC (pc := 32) dX12_handsThatGo_32 ?_
        refine k_topi (fun x_4 h_x_4 => ?_)
        have h := h x_4 h_x_4
        refine k_istore_n hC (pc := 33) dX12_handsThatGo_33 [(1, .int x_4), (0, .ref (adr X.G a 6 0)), (2, .int x2)] (by decide) rfl ?_
        obtain ⟨x_5, h_x_5⟩ : ∃ z : Int32, z = x2 + 1 := ⟨_, rfl⟩
        have h := h x_5 h_x_5
        refine k_iincw hC (pc := 34) dX12_handsThatGo_34 2 rfl ic_1 h_x_5.symm [(2, .int x_5), (1, .int x_4), (0, .ref (adr X.G a 6 0))] (by decide) rfl ?_
        refine k_goto hC (pc := 37) 4 dX12_handsThatGo_37 (by decide) ?_
        refine k_sub [(0, .ref (adr X.G a 6 0)), (1, .int x_4), (2, .int x_5)] [2, 1, 0] rfl ?_
        exact ih _ _ _ h
      · have h := h.2 c_3
        refine k_aload_n hC (pc := 22) dX12_handsThatGo_22 0 rfl ?_
        refine gf_X12_60 hC (pc := 23)  fl_RX12_149 dX12_handsThatGo_23 ?_
        refine k_iload_n hC (pc := 26) dX12_handsThatGo_26 2 rfl ?_
        obtain ⟨c_6, h⟩ := h
        refine r_iald hC (pc := 27) ra5_60 c_6 dX12_handsThatGo_27 ?_
        refine k_goto hC (pc := 28) 32 dX12_handsThatGo_28 (by decide) ?_
        refine k_iadd hC (pc := 32) dX12_handsThatGo_32 ?_
        refine k_topi (fun x_7 h_x_7 => ?_)
        have h := h x_7 h_x_7
        refine k_istore_n hC (pc := 33) dX12_handsThatGo_33 [(1, .int x_7), (0, .ref (adr X.G a 6 0)), (2, .int x2)] (by decide) rfl ?_
        obtain ⟨x_8, h_x_8⟩ : ∃ z : Int32, z = x2 + 1 := ⟨_, rfl⟩
        have h := h x_8 h_x_8
        refine k_iincw hC (pc := 34) dX12_handsThatGo_34 2 rfl ic_1 h_x_8.symm [(2, .int x_8), (1, .int x_7), (0, .ref (adr X.G a 6 0))] (by decide) rfl ?_
        refine k_goto hC (pc := 37) 4 dX12_handsThatGo_37 (by decide) ?_
        refine k_sub [(0, .ref (adr X.G a 6 0)), (1, .int x_7), (2, .int x_8)] [2, 1, 0] rfl ?_
        exact ih _ _ _ h
set_option maxHeartbeats 4000000 in
theorem b_X12_handsThatGo {X : Kx} {a : Ax} {N : Nat} {post : Int32 → Sx → Prop} (hC : Cx X cX12_handsThatGo 3 RX12) (hR : X.R = { frames := 0, cells := 0, slots := 0, locals := 0 }) (hQ : X.Q = MQ X.below (Qi X.G a post) X.av X.s 0 0 (bs_ X.G)) (hr : X.meth.sig.returnType = (some .int)) (hn : X.meth.name = "handsThatGo") (s : Sx) (h : w_X12_handsThatGo N s post) : wk X a s 3 0 [(0, .ref (adr X.G a 6 0))] [] 0 0 := by
  unfold w_X12_handsThatGo at h
  refine k_iconst hC (pc := 0) (v := 0) dX12_handsThatGo_0 ic_0 ?_
  refine k_istore_n hC (pc := 1) dX12_handsThatGo_1 [(1, .int 0), (0, .ref (adr X.G a 6 0))] (by decide) rfl ?_
  refine k_iconst hC (pc := 2) (v := 0) dX12_handsThatGo_2 ic_0 ?_
  refine k_istore_n hC (pc := 3) dX12_handsThatGo_3 [(2, .int 0), (1, .int 0), (0, .ref (adr X.G a 6 0))] (by decide) rfl ?_
  refine k_sub [(0, .ref (adr X.G a 6 0)), (1, .int 0), (2, .int 0)] [2, 1, 0] rfl ?_
  exact b_X12_handsThatGo_4 hC hR hQ hr N _ _ _ h
theorem ct_X12_handsThatGo {l : Launch} {G : Gx} {a : Ax} {s : Sx} {N : Nat} {post : Int32 → Sx → Prop} (h : w_X12_handsThatGo N s post) : Met l yX12_handsThatGo (Cond.code yX12_handsThatGo cX12_handsThatGo 3 (some .int) :: gw) { frames := 0, cells := 0, slots := 0, locals := 0 } (va_Pc [.ref (adr G a 6 0)] (fun U => FU G a s U)) (Qi G a post) 0 0 (bs_ G) := met_of (plainFor_of_name (by decide)) (Nat.le_of_ble_eq_true rfl) rfl (fun X hC hl hR hQ hr hG hn => by subst hG; exact b_X12_handsThatGo hC hR hQ hr hn s h)
theorem ca_X12_handsThatGo : Ca yX12_handsThatGo cX12_handsThatGo 3 (some .int) 0 := ⟨cd_X12_handsThatGo, ii_RX12, by decide, by decide, by decide +kernel⟩
def w_X12_lost (N : Nat) (x1 : Int32) (s : Sx) (post : Int32 → Sx → Prop) : Prop := w_X12_layHours N s (fun s_1 => (x1 < 0 → post ((-2)) s_1) ∧ (¬ (x1 < 0) → w_X12_calls N s_1 (fun r_4 s_3 => (x1 < r_4 → w_X12_lostBy N x1 s_3 (fun r_7 s_6 => post r_7 s_6)) ∧ (¬ (x1 < r_4) → post ((-2)) s_3))))
set_option maxHeartbeats 4000000 in
theorem b_X12_lost {X : Kx} {a : Ax} {N : Nat} {post : Int32 → Sx → Prop} (hC : Cx X cX12_lost 2 RX12) (hR : X.R = { frames := 2, cells := 0, slots := 0, locals := 48 }) (hQ : X.Q = MQ X.below (Qi X.G a post) X.av X.s 0 0 (bs_ X.G)) (hr : X.meth.sig.returnType = (some .int)) (hn : X.meth.name = "lost") (s : Sx) (x1 : Int32) (h : w_X12_lost N x1 s post) : wk X a s 2 0 [(0, .ref (adr X.G a 6 0)), (1, .int x1)] [] 0 0 := by
  unfold w_X12_lost at h
  refine k_aload_n hC (pc := 0) dX12_lost_0 0 rfl ?_
  refine k_cv (rn_V hC (pc := 1) (As := []) (rest := []) ca_X12_layHours ml_RX12_304 im_X12_layHours se_X12_layHours (fx_in f6_0) (ob6_0 _ _ _ _ _) rfl rfl (ct_X12_layHours h) (by rw [hR]; exact ⟨rfl, rfl, by decide, by decide⟩) rfl (Nat.le_of_ble_eq_true rfl) dX12_lost_1 ⟨by rw [hR]; decide, by rw [hR]; decide⟩) (fun s_1 h => ?_)
  refine k_iload_n hC (pc := 4) dX12_lost_4 1 rfl ?_
  refine k_if_lt hC (pc := 5) 16 dX12_lost_5 (by decide) (fun c_2 => ?_) (fun c_2 => ?_)
  · have h := h.1 c_2
    refine k_bipush hC (pc := 16) (v := (-2)) dX12_lost_16 bp_m2 ?_
    refine k_goto hC (pc := 18) 26 dX12_lost_18 (by decide) ?_
    exact k_iret hC (pc := 26) hQ hr dX12_lost_26 h
  · have h := h.2 c_2
    refine k_iload_n hC (pc := 8) dX12_lost_8 1 rfl ?_
    refine k_aload_n hC (pc := 9) dX12_lost_9 0 rfl ?_
    refine k_ci (rn_V hC (pc := 10) (As := []) (rest := [.int x1]) ca_X12_calls ml_RX12_307 im_X12_calls se_X12_calls (fx_in f6_0) (ob6_0 _ _ _ _ _) rfl rfl (ct_X12_calls h) (by rw [hR]; exact ⟨rfl, rfl, by decide, by decide⟩) rfl (Nat.le_of_ble_eq_true rfl) dX12_lost_10 ⟨by rw [hR]; decide, by rw [hR]; decide⟩) (fun r_4 s_3 h => ?_)
    refine k_icmp_lt hC (pc := 13) 21 dX12_lost_13 (by decide) (fun c_5 => ?_) (fun c_5 => ?_)
    · have h := h.1 c_5
      refine k_aload_n hC (pc := 21) dX12_lost_21 0 rfl ?_
      refine k_iload_n hC (pc := 22) dX12_lost_22 1 rfl ?_
      refine k_ci (rn_V hC (pc := 23) (As := [.int x1]) (rest := []) ca_X12_lostBy ml_RX12_311 im_X12_lostBy se_X12_lostBy (fx_in f6_0) (ob6_0 _ _ _ _ _) rfl rfl (ct_X12_lostBy x1 h) (by rw [hR]; exact ⟨rfl, rfl, by decide, by decide⟩) rfl (Nat.le_of_ble_eq_true rfl) dX12_lost_23 ⟨by rw [hR]; decide, by rw [hR]; decide⟩) (fun r_7 s_6 h => ?_)
      exact k_iret hC (pc := 26) hQ hr dX12_lost_26 h
    · have h := h.2 c_5
      refine k_bipush hC (pc := 16) (v := (-2)) dX12_lost_16 bp_m2 ?_
      refine k_goto hC (pc := 18) 26 dX12_lost_18 (by decide) ?_
      exact k_iret hC (pc := 26) hQ hr dX12_lost_26 h
theorem ct_X12_lost {l : Launch} {G : Gx} {a : Ax} {s : Sx} {N : Nat} {post : Int32 → Sx → Prop} (x1 : Int32) (h : w_X12_lost N x1 s post) : Met l yX12_lost (Cond.code yX12_lost cX12_lost 2 (some .int) :: gw) { frames := 2, cells := 0, slots := 0, locals := 48 } (va_Pc [.ref (adr G a 6 0), .int x1] (fun U => FU G a s U)) (Qi G a post) 0 0 (bs_ G) := met_of (plainFor_of_name (by decide)) (Nat.le_of_ble_eq_true rfl) rfl (fun X hC hl hR hQ hr hG hn => by subst hG; exact b_X12_lost hC hR hQ hr hn s x1 h)
theorem ca_X12_lost : Ca yX12_lost cX12_lost 2 (some .int) 1 := ⟨cd_X12_lost, ii_RX12, by decide, by decide, by decide +kernel⟩
def w_X12_call_82 (N : Nat) (post : Int32 → Sx → Prop) (K37 : Sx → Int32 → Int32 → Int32 → Int32 → Int32 → Int32 → Prop) (s : Sx) (x1 : Int32) (x5 : Int32) (x6 : Int32) (x7 : Int32) (x8 : Int32) : Prop := ∀ x_17 : Int32, x_17 = x6 + 1 → K37 s x1 x6 x7 x8 x5 x_17
def w_X12_call_37 (N : Nat) (post : Int32 → Sx → Prop) : Nat → Sx → Int32 → Int32 → Int32 → Int32 → Int32 → Int32 → Prop
  | 0, _, _, _, _, _, _, _ => False
  | n + 1, s, x1, x2, x3, x4, x5, x6 => (x5 ≤ x6 → (¬ x1 = ((-1)) → (¬ x1 = ((-2)) → w_X12_layCall N x2 s (fun s_10 => vp_in x1 7 ∧ post (s_10.1 5 61 x1.toNatClampNeg) s_10)) ∧ (¬ (¬ x1 = ((-2))) → post x4 s)) ∧ (¬ (¬ x1 = ((-1))) → post x3 s)) ∧ (¬ (x5 ≤ x6) → w_X12_lostBy N x6 s (fun r_13 s_12 => w_X12_handsThatGo N s_12 (fun r_15 s_14 => (x6 = 0 → w_X12_call_82 N post (w_X12_call_37 N post n) s_14 x1 x5 x6 r_13 r_15) ∧ (¬ (x6 = 0) → (r_13 < x3 → w_X12_call_82 N post (w_X12_call_37 N post n) s_14 x1 x5 x6 r_13 r_15) ∧ (¬ (r_13 < x3) → (¬ r_13 = x3 → ∀ x_20 : Int32, x_20 = x6 + 1 → w_X12_call_37 N post n s_14 x1 x2 x3 x4 x5 x_20) ∧ (¬ (¬ r_13 = x3) → (x4 ≤ r_15 → ∀ x_22 : Int32, x_22 = x6 + 1 → w_X12_call_37 N post n s_14 x1 x2 x3 x4 x5 x_22) ∧ (¬ (x4 ≤ r_15) → w_X12_call_82 N post (w_X12_call_37 N post n) s_14 x1 x5 x6 r_13 r_15)))))))
def w_X12_call (N : Nat) (x1 : Int32) (s : Sx) (post : Int32 → Sx → Prop) : Prop := w_X12_within N x1 ((-2)) ((s.1 6 0 5) - 1) s (fun r_2 s_1 => (¬ r_2 = 0 → w_X12_calls N s_1 (fun r_5 s_4 => w_X12_layHours N s_4 (fun s_6 => w_X12_call_37 N post N s_6 x1 0 0 0 r_5 0))) ∧ (¬ (¬ r_2 = 0) → post ((-1)) s_1))
set_option maxHeartbeats 4000000 in
theorem b_X12_call_82 {X : Kx} {a : Ax} {N : Nat} {post : Int32 → Sx → Prop} {K37 : Sx → Int32 → Int32 → Int32 → Int32 → Int32 → Int32 → Prop}  (hC : Cx X cX12_call 9 RX12) (hR : X.R = { frames := 2, cells := 0, slots := 0, locals := 48 }) (hQ : X.Q = MQ X.below (Qi X.G a post) X.av X.s 0 0 (bs_ X.G)) (hr : X.meth.sig.returnType = (some .int))  (hK37 : ∀ (s : Sx) (x1 : Int32) (x2 : Int32) (x3 : Int32) (x4 : Int32) (x5 : Int32) (x6 : Int32), K37 s x1 x2 x3 x4 x5 x6 → wk X a s 9 37 [(0, .ref (adr X.G a 6 0)), (1, .int x1), (2, .int x2), (3, .int x3), (4, .int x4), (5, .int x5), (6, .int x6)] [] 0 0) (s : Sx) (x1 : Int32) (x5 : Int32) (x6 : Int32) (x7 : Int32) (x8 : Int32) (h : w_X12_call_82 N post K37 s x1 x5 x6 x7 x8) : wk X a s 9 82 [(0, .ref (adr X.G a 6 0)), (1, .int x1), (5, .int x5), (6, .int x6), (7, .int x7), (8, .int x8)] [] 0 0 := by
  unfold w_X12_call_82 at h
  refine k_iload hC (pc := 82) dX12_call_82 3 rfl ?_
  refine k_istore_n hC (pc := 84) dX12_call_84 [(2, .int x6), (0, .ref (adr X.G a 6 0)), (1, .int x1), (5, .int x5), (6, .int x6), (7, .int x7), (8, .int x8)] (by decide) rfl ?_
  refine k_iload hC (pc := 85) dX12_call_85 5 rfl ?_
  refine k_istore_n hC (pc := 87) dX12_call_87 [(3, .int x7), (2, .int x6), (0, .ref (adr X.G a 6 0)), (1, .int x1), (5, .int x5), (6, .int x6), (7, .int x7), (8, .int x8)] (by decide) rfl ?_
  refine k_iload hC (pc := 88) dX12_call_88 7 rfl ?_
  refine k_istore hC (pc := 90) dX12_call_90 [(4, .int x8), (3, .int x7), (2, .int x6), (0, .ref (adr X.G a 6 0)), (1, .int x1), (5, .int x5), (6, .int x6), (7, .int x7), (8, .int x8)] (by decide) rfl ?_
  obtain ⟨x_17, h_x_17⟩ : ∃ z : Int32, z = x6 + 1 := ⟨_, rfl⟩
  have h := h x_17 h_x_17
  refine k_iincw hC (pc := 92) dX12_call_92 6 rfl ic_1 h_x_17.symm [(6, .int x_17), (4, .int x8), (3, .int x7), (2, .int x6), (0, .ref (adr X.G a 6 0)), (1, .int x1), (5, .int x5), (7, .int x7), (8, .int x8)] (by decide) rfl ?_
  refine k_goto hC (pc := 95) 37 dX12_call_95 (by decide) ?_
  refine k_sub [(0, .ref (adr X.G a 6 0)), (1, .int x1), (2, .int x6), (3, .int x7), (4, .int x8), (5, .int x5), (6, .int x_17)] [4, 5, 3, 2, 1, 6, 0] rfl ?_
  exact hK37 _ _ _ _ _ _ _ h
set_option maxHeartbeats 4000000 in
theorem b_X12_call_37 {X : Kx} {a : Ax} {N : Nat} {post : Int32 → Sx → Prop}  (hC : Cx X cX12_call 9 RX12) (hR : X.R = { frames := 2, cells := 0, slots := 0, locals := 48 }) (hQ : X.Q = MQ X.below (Qi X.G a post) X.av X.s 0 0 (bs_ X.G)) (hr : X.meth.sig.returnType = (some .int))   : ∀ (n : Nat) (s : Sx) (x1 : Int32) (x2 : Int32) (x3 : Int32) (x4 : Int32) (x5 : Int32) (x6 : Int32), w_X12_call_37 N post  n s x1 x2 x3 x4 x5 x6 → wk X a s 9 37 [(0, .ref (adr X.G a 6 0)), (1, .int x1), (2, .int x2), (3, .int x3), (4, .int x4), (5, .int x5), (6, .int x6)] [] 0 0 := by
  intro n
  induction n with
  | zero => intro s x1 x2 x3 x4 x5 x6 h; exact h.elim
  | succ n ih =>
    intro s x1 x2 x3 x4 x5 x6 h
    unfold w_X12_call_37 at h
    refine k_iload hC (pc := 37) dX12_call_37 6 rfl ?_
    refine k_iload hC (pc := 39) dX12_call_39 5 rfl ?_
    refine k_icmp_ge hC (pc := 41) 98 dX12_call_41 (by decide) (fun c_7 => ?_) (fun c_7 => ?_)
    · have h := h.1 c_7
      refine k_iload_n hC (pc := 98) dX12_call_98 1 rfl ?_
      refine k_iconst hC (pc := 99) (v := (-1)) dX12_call_99 ic_m1 ?_
      refine k_icmp_ne hC (pc := 100) 105 dX12_call_100 (by decide) (fun c_8 => ?_) (fun c_8 => ?_)
      · have h := h.1 c_8
        refine k_iload_n hC (pc := 105) dX12_call_105 1 rfl ?_
        refine k_bipush hC (pc := 106) (v := (-2)) dX12_call_106 bp_m2 ?_
        refine k_icmp_ne hC (pc := 108) 114 dX12_call_108 (by decide) (fun c_9 => ?_) (fun c_9 => ?_)
        · have h := h.1 c_9
          refine k_aload_n hC (pc := 114) dX12_call_114 0 rfl ?_
          refine k_iload_n hC (pc := 115) dX12_call_115 2 rfl ?_
          refine k_cv (rn_V hC (pc := 116) (As := [.int x2]) (rest := []) ca_X12_layCall ml_RX12_297 im_X12_layCall se_X12_layCall (fx_in f6_0) (ob6_0 _ _ _ _ _) rfl rfl (ct_X12_layCall x2 h) (by rw [hR]; exact ⟨rfl, rfl, by decide, by decide⟩) rfl (Nat.le_of_ble_eq_true rfl) dX12_call_116 ⟨by rw [hR]; decide, by rw [hR]; decide⟩) (fun s_10 h => ?_)
          refine k_aload_n hC (pc := 119) dX12_call_119 0 rfl ?_
          refine gf_X12_61 hC (pc := 120)  fl_RX12_152 dX12_call_120 ?_
          refine k_iload_n hC (pc := 123) dX12_call_123 1 rfl ?_
          obtain ⟨c_11, h⟩ := h
          refine r_iald hC (pc := 124) ra5_61 c_11 dX12_call_124 ?_
          exact k_iret hC (pc := 125) hQ hr dX12_call_125 h
        · have h := h.2 c_9
          refine k_iload hC (pc := 111) dX12_call_111 4 rfl ?_
          exact k_iret hC (pc := 113) hQ hr dX12_call_113 h
      · have h := h.2 c_8
        refine k_iload_n hC (pc := 103) dX12_call_103 3 rfl ?_
        exact k_iret hC (pc := 104) hQ hr dX12_call_104 h
    · have h := h.2 c_7
      refine k_aload_n hC (pc := 44) dX12_call_44 0 rfl ?_
      refine k_iload hC (pc := 45) dX12_call_45 6 rfl ?_
      refine k_ci (rn_V hC (pc := 47) (As := [.int x6]) (rest := []) ca_X12_lostBy ml_RX12_311 im_X12_lostBy se_X12_lostBy (fx_in f6_0) (ob6_0 _ _ _ _ _) rfl rfl (ct_X12_lostBy x6 h) (by rw [hR]; exact ⟨rfl, rfl, by decide, by decide⟩) rfl (Nat.le_of_ble_eq_true rfl) dX12_call_47 ⟨by rw [hR]; decide, by rw [hR]; decide⟩) (fun r_13 s_12 h => ?_)
      refine k_istore hC (pc := 50) dX12_call_50 [(7, .int r_13), (0, .ref (adr X.G a 6 0)), (1, .int x1), (2, .int x2), (3, .int x3), (4, .int x4), (5, .int x5), (6, .int x6)] (by decide) rfl ?_
      refine k_aload_n hC (pc := 52) dX12_call_52 1 rfl ?_
      refine k_ci (rn_V hC (pc := 53) (As := []) (rest := []) ca_X12_handsThatGo ml_RX12_314 im_X12_handsThatGo se_X12_handsThatGo (fx_in f6_0) (ob6_0 _ _ _ _ _) rfl rfl (ct_X12_handsThatGo h) (by rw [hR]; exact ⟨rfl, rfl, by decide, by decide⟩) rfl (Nat.le_of_ble_eq_true rfl) dX12_call_53 ⟨by rw [hR]; decide, by rw [hR]; decide⟩) (fun r_15 s_14 h => ?_)
      refine k_istore hC (pc := 56) dX12_call_56 [(8, .int r_15), (7, .int r_13), (0, .ref (adr X.G a 6 0)), (1, .int x1), (2, .int x2), (3, .int x3), (4, .int x4), (5, .int x5), (6, .int x6)] (by decide) rfl ?_
      refine k_iload hC (pc := 58) dX12_call_58 8 rfl ?_
      refine k_if_eq hC (pc := 60) 82 dX12_call_60 (by decide) (fun c_16 => ?_) (fun c_16 => ?_)
      · have h := h.1 c_16
        refine k_sub [(0, .ref (adr X.G a 6 0)), (1, .int x1), (5, .int x5), (6, .int x6), (7, .int r_13), (8, .int r_15)] [2, 3, 7, 8, 1, 0] rfl ?_
        exact b_X12_call_82 hC hR hQ hr ih _ _ _ _ _ _ h
      · have h := h.2 c_16
        refine k_iload hC (pc := 63) dX12_call_63 1 rfl ?_
        refine k_iload_n hC (pc := 65) dX12_call_65 5 rfl ?_
        refine k_icmp_lt hC (pc := 66) 82 dX12_call_66 (by decide) (fun c_18 => ?_) (fun c_18 => ?_)
        · have h := h.1 c_18
          refine k_sub [(0, .ref (adr X.G a 6 0)), (1, .int x1), (5, .int x5), (6, .int x6), (7, .int r_13), (8, .int r_15)] [2, 3, 7, 8, 1, 0] rfl ?_
          exact b_X12_call_82 hC hR hQ hr ih _ _ _ _ _ _ h
        · have h := h.2 c_18
          refine k_iload hC (pc := 69) dX12_call_69 1 rfl ?_
          refine k_iload_n hC (pc := 71) dX12_call_71 5 rfl ?_
          refine k_icmp_ne hC (pc := 72) 92 dX12_call_72 (by decide) (fun c_19 => ?_) (fun c_19 => ?_)
          · have h := h.1 c_19
            obtain ⟨x_20, h_x_20⟩ : ∃ z : Int32, z = x6 + 1 := ⟨_, rfl⟩
            have h := h x_20 h_x_20
            refine k_iincw hC (pc := 92) dX12_call_92 8 rfl ic_1 h_x_20.symm [(6, .int x_20), (8, .int r_15), (7, .int r_13), (0, .ref (adr X.G a 6 0)), (1, .int x1), (2, .int x2), (3, .int x3), (4, .int x4), (5, .int x5)] (by decide) rfl ?_
            refine k_goto hC (pc := 95) 37 dX12_call_95 (by decide) ?_
            refine k_sub [(0, .ref (adr X.G a 6 0)), (1, .int x1), (2, .int x2), (3, .int x3), (4, .int x4), (5, .int x5), (6, .int x_20)] [3, 4, 5, 6, 7, 8, 0] rfl ?_
            exact ih _ _ _ _ _ _ _ h
          · have h := h.2 c_19
            refine k_iload hC (pc := 75) dX12_call_75 0 rfl ?_
            refine k_iload hC (pc := 77) dX12_call_77 6 rfl ?_
            refine k_icmp_ge hC (pc := 79) 92 dX12_call_79 (by decide) (fun c_21 => ?_) (fun c_21 => ?_)
            · have h := h.1 c_21
              obtain ⟨x_22, h_x_22⟩ : ∃ z : Int32, z = x6 + 1 := ⟨_, rfl⟩
              have h := h x_22 h_x_22
              refine k_iincw hC (pc := 92) dX12_call_92 8 rfl ic_1 h_x_22.symm [(6, .int x_22), (8, .int r_15), (7, .int r_13), (0, .ref (adr X.G a 6 0)), (1, .int x1), (2, .int x2), (3, .int x3), (4, .int x4), (5, .int x5)] (by decide) rfl ?_
              refine k_goto hC (pc := 95) 37 dX12_call_95 (by decide) ?_
              refine k_sub [(0, .ref (adr X.G a 6 0)), (1, .int x1), (2, .int x2), (3, .int x3), (4, .int x4), (5, .int x5), (6, .int x_22)] [3, 4, 5, 6, 7, 8, 0] rfl ?_
              exact ih _ _ _ _ _ _ _ h
            · have h := h.2 c_21
              refine k_sub [(0, .ref (adr X.G a 6 0)), (1, .int x1), (5, .int x5), (6, .int x6), (7, .int r_13), (8, .int r_15)] [2, 3, 7, 8, 1, 0] rfl ?_
              exact b_X12_call_82 hC hR hQ hr ih _ _ _ _ _ _ h
set_option maxHeartbeats 4000000 in
theorem b_X12_call {X : Kx} {a : Ax} {N : Nat} {post : Int32 → Sx → Prop} (hC : Cx X cX12_call 9 RX12) (hR : X.R = { frames := 2, cells := 0, slots := 0, locals := 48 }) (hQ : X.Q = MQ X.below (Qi X.G a post) X.av X.s 0 0 (bs_ X.G)) (hr : X.meth.sig.returnType = (some .int)) (hn : X.meth.name = "call") (s : Sx) (x1 : Int32) (h : w_X12_call N x1 s post) : wk X a s 9 0 [(0, .ref (adr X.G a 6 0)), (1, .int x1)] [] 0 0 := by
  unfold w_X12_call at h
  refine k_iload_n hC (pc := 0) dX12_call_0 1 rfl ?_
  refine k_bipush hC (pc := 1) (v := (-2)) dX12_call_1 bp_m2 ?_
  refine k_aload_n hC (pc := 3) dX12_call_3 0 rfl ?_
  refine gf_X12_5 hC (pc := 4)  fl_RX12_190 dX12_call_4 ?_
  refine k_iconst hC (pc := 7) (v := 1) dX12_call_7 ic_1 ?_
  refine k_isub hC (pc := 8) dX12_call_8 ?_
  refine k_ci (rn_S hC (pc := 9) (As := [.int x1, .int ((-2)), .int ((s.1 6 0 5) - 1)]) (rest := []) ca_X12_within ml_RX12_186 sm_X12_within (ct_X12_within x1 ((-2)) ((s.1 6 0 5) - 1) h) (by rw [hR]; exact ⟨rfl, rfl, by decide, by decide⟩) rfl (Nat.le_of_ble_eq_true rfl) dX12_call_9 ⟨by rw [hR]; decide, by rw [hR]; decide⟩) (fun r_2 s_1 h => ?_)
  refine k_if_ne hC (pc := 12) 17 dX12_call_12 (by decide) (fun c_3 => ?_) (fun c_3 => ?_)
  · have h := h.1 c_3
    refine k_iconst hC (pc := 17) (v := 0) dX12_call_17 ic_0 ?_
    refine k_istore_n hC (pc := 18) dX12_call_18 [(2, .int 0), (0, .ref (adr X.G a 6 0)), (1, .int x1)] (by decide) rfl ?_
    refine k_iconst hC (pc := 19) (v := 0) dX12_call_19 ic_0 ?_
    refine k_istore_n hC (pc := 20) dX12_call_20 [(3, .int 0), (2, .int 0), (0, .ref (adr X.G a 6 0)), (1, .int x1)] (by decide) rfl ?_
    refine k_iconst hC (pc := 21) (v := 0) dX12_call_21 ic_0 ?_
    refine k_istore hC (pc := 22) dX12_call_22 [(4, .int 0), (3, .int 0), (2, .int 0), (0, .ref (adr X.G a 6 0)), (1, .int x1)] (by decide) rfl ?_
    refine k_aload_n hC (pc := 24) dX12_call_24 3 rfl ?_
    refine k_ci (rn_V hC (pc := 25) (As := []) (rest := []) ca_X12_calls ml_RX12_307 im_X12_calls se_X12_calls (fx_in f6_0) (ob6_0 _ _ _ _ _) rfl rfl (ct_X12_calls h) (by rw [hR]; exact ⟨rfl, rfl, by decide, by decide⟩) rfl (Nat.le_of_ble_eq_true rfl) dX12_call_25 ⟨by rw [hR]; decide, by rw [hR]; decide⟩) (fun r_5 s_4 h => ?_)
    refine k_istore hC (pc := 28) dX12_call_28 [(5, .int r_5), (4, .int 0), (3, .int 0), (2, .int 0), (0, .ref (adr X.G a 6 0)), (1, .int x1)] (by decide) rfl ?_
    refine k_aload_n hC (pc := 30) dX12_call_30 4 rfl ?_
    refine k_cv (rn_V hC (pc := 31) (As := []) (rest := []) ca_X12_layHours ml_RX12_304 im_X12_layHours se_X12_layHours (fx_in f6_0) (ob6_0 _ _ _ _ _) rfl rfl (ct_X12_layHours h) (by rw [hR]; exact ⟨rfl, rfl, by decide, by decide⟩) rfl (Nat.le_of_ble_eq_true rfl) dX12_call_31 ⟨by rw [hR]; decide, by rw [hR]; decide⟩) (fun s_6 h => ?_)
    refine k_iconst hC (pc := 34) (v := 0) dX12_call_34 ic_0 ?_
    refine k_istore hC (pc := 35) dX12_call_35 [(6, .int 0), (5, .int r_5), (4, .int 0), (3, .int 0), (2, .int 0), (0, .ref (adr X.G a 6 0)), (1, .int x1)] (by decide) rfl ?_
    refine k_sub [(0, .ref (adr X.G a 6 0)), (1, .int x1), (2, .int 0), (3, .int 0), (4, .int 0), (5, .int r_5), (6, .int 0)] [5, 6, 4, 3, 2, 1, 0] rfl ?_
    exact b_X12_call_37 hC hR hQ hr N _ _ _ _ _ _ _ h
  · have h := h.2 c_3
    refine k_iconst hC (pc := 15) (v := (-1)) dX12_call_15 ic_m1 ?_
    exact k_iret hC (pc := 16) hQ hr dX12_call_16 h
theorem ct_X12_call {l : Launch} {G : Gx} {a : Ax} {s : Sx} {N : Nat} {post : Int32 → Sx → Prop} (x1 : Int32) (h : w_X12_call N x1 s post) : Met l yX12_call (Cond.code yX12_call cX12_call 9 (some .int) :: gw) { frames := 2, cells := 0, slots := 0, locals := 48 } (va_Pc [.ref (adr G a 6 0), .int x1] (fun U => FU G a s U)) (Qi G a post) 0 0 (bs_ G) := met_of (plainFor_of_name (by decide)) (Nat.le_of_ble_eq_true rfl) rfl (fun X hC hl hR hQ hr hG hn => by subst hG; exact b_X12_call hC hR hQ hr hn s x1 h)
theorem ca_X12_call : Ca yX12_call cX12_call 9 (some .int) 1 := ⟨cd_X12_call, ii_RX12, by decide, by decide, by decide +kernel⟩
def w_X12_place (N : Nat) (x1 : Int32) (x2 : Int32) (x3 : Int32) (x4 : Int32) (s : Sx) (post : Int32 → Sx → Prop) : Prop := w_X12_isSpot N x1 x2 s (fun r_2 s_1 => (r_2 = 0 → post ((-2)) s_1) ∧ (¬ (r_2 = 0) → w_X12_within N x3 0 999 s_1 (fun r_5 s_4 => (¬ r_5 = 0 → (¬ (s_4.1 6 0 63) = 8 → vp_in (s_4.1 6 0 63) 8 ∧ ∀ s_9, s_9 = setI s_4 5 64 (s_4.1 6 0 63).toNatClampNeg x1 → vp_in (s_9.1 6 0 63) 8 ∧ ∀ s_11, s_11 = setI s_9 5 65 (s_9.1 6 0 63).toNatClampNeg x2 → vp_in (s_11.1 6 0 63) 8 ∧ ∀ s_13, s_13 = setI s_11 5 66 (s_11.1 6 0 63).toNatClampNeg x3 → vp_in (s_13.1 6 0 63) 8 ∧ ∀ s_15, s_15 = setI s_13 5 67 (s_13.1 6 0 63).toNatClampNeg (vp_nar .boolean x4) → ∀ s_16, s_16 = setI s_15 6 0 63 ((s_15.1 6 0 63) + 1) → post ((s_16.1 6 0 63) - 1) s_16) ∧ (¬ (¬ (s_4.1 6 0 63) = 8) → post ((-4)) s_4)) ∧ (¬ (¬ r_5 = 0) → post ((-2)) s_4))))
set_option maxHeartbeats 4000000 in
theorem b_X12_place {X : Kx} {a : Ax} {N : Nat} {post : Int32 → Sx → Prop} (hC : Cx X cX12_place 5 RX12) (hR : X.R = { frames := 2, cells := 0, slots := 0, locals := 43 }) (hQ : X.Q = MQ X.below (Qi X.G a post) X.av X.s 0 0 (bs_ X.G)) (hr : X.meth.sig.returnType = (some .int)) (hn : X.meth.name = "place") (s : Sx) (x1 : Int32) (x2 : Int32) (x3 : Int32) (x4 : Int32) (h : w_X12_place N x1 x2 x3 x4 s post) : wk X a s 5 0 [(0, .ref (adr X.G a 6 0)), (1, .int x1), (2, .int x2), (3, .int x3), (4, .int x4)] [] 0 0 := by
  unfold w_X12_place at h
  refine k_iload_n hC (pc := 0) dX12_place_0 1 rfl ?_
  refine k_iload_n hC (pc := 1) dX12_place_1 2 rfl ?_
  refine k_ci (rn_S hC (pc := 2) (As := [.int x1, .int x2]) (rest := []) ca_X12_isSpot ml_RX12_199 sm_X12_isSpot (ct_X12_isSpot x1 x2 h) (by rw [hR]; exact ⟨rfl, rfl, by decide, by decide⟩) rfl (Nat.le_of_ble_eq_true rfl) dX12_place_2 ⟨by rw [hR]; decide, by rw [hR]; decide⟩) (fun r_2 s_1 h => ?_)
  refine k_if_eq hC (pc := 5) 19 dX12_place_5 (by decide) (fun c_3 => ?_) (fun c_3 => ?_)
  · have h := h.1 c_3
    refine k_bipush hC (pc := 19) (v := (-2)) dX12_place_19 bp_m2 ?_
    exact k_iret hC (pc := 21) hQ hr dX12_place_21 h
  · have h := h.2 c_3
    refine k_iload_n hC (pc := 8) dX12_place_8 3 rfl ?_
    refine k_iconst hC (pc := 9) (v := 0) dX12_place_9 ic_0 ?_
    refine k_sipush hC (pc := 10) (v := 999) dX12_place_10 sp_999 ?_
    refine k_ci (rn_S hC (pc := 13) (As := [.int x3, .int 0, .int 999]) (rest := []) ca_X12_within ml_RX12_186 sm_X12_within (ct_X12_within x3 0 999 h) (by rw [hR]; exact ⟨rfl, rfl, by decide, by decide⟩) rfl (Nat.le_of_ble_eq_true rfl) dX12_place_13 ⟨by rw [hR]; decide, by rw [hR]; decide⟩) (fun r_5 s_4 h => ?_)
    refine k_if_ne hC (pc := 16) 22 dX12_place_16 (by decide) (fun c_6 => ?_) (fun c_6 => ?_)
    · have h := h.1 c_6
      refine k_aload_n hC (pc := 22) dX12_place_22 0 rfl ?_
      refine gf_X12_63 hC (pc := 23)  fl_RX12_317 dX12_place_23 ?_
      refine k_bipush hC (pc := 26) (v := 8) dX12_place_26 bp_8 ?_
      refine k_icmp_ne hC (pc := 28) 34 dX12_place_28 (by decide) (fun c_7 => ?_) (fun c_7 => ?_)
      · have h := h.1 c_7
        refine k_aload_n hC (pc := 34) dX12_place_34 0 rfl ?_
        refine gf_X12_64 hC (pc := 35)  fl_RX12_158 dX12_place_35 ?_
        refine k_aload_n hC (pc := 38) dX12_place_38 0 rfl ?_
        refine gf_X12_63 hC (pc := 39)  fl_RX12_317 dX12_place_39 ?_
        refine k_iload_n hC (pc := 42) dX12_place_42 1 rfl ?_
        obtain ⟨c_8, h⟩ := h
        refine r_iast hC (pc := 43) ra5_64 c_8 dX12_place_43 (fun s_9 h_s_9 => ?_)
        have h := h s_9 h_s_9
        refine k_aload_n hC (pc := 44) dX12_place_44 0 rfl ?_
        refine gf_X12_65 hC (pc := 45)  fl_RX12_161 dX12_place_45 ?_
        refine k_aload_n hC (pc := 48) dX12_place_48 0 rfl ?_
        refine gf_X12_63 hC (pc := 49)  fl_RX12_317 dX12_place_49 ?_
        refine k_iload_n hC (pc := 52) dX12_place_52 2 rfl ?_
        obtain ⟨c_10, h⟩ := h
        refine r_iast hC (pc := 53) ra5_65 c_10 dX12_place_53 (fun s_11 h_s_11 => ?_)
        have h := h s_11 h_s_11
        refine k_aload_n hC (pc := 54) dX12_place_54 0 rfl ?_
        refine gf_X12_66 hC (pc := 55)  fl_RX12_164 dX12_place_55 ?_
        refine k_aload_n hC (pc := 58) dX12_place_58 0 rfl ?_
        refine gf_X12_63 hC (pc := 59)  fl_RX12_317 dX12_place_59 ?_
        refine k_iload_n hC (pc := 62) dX12_place_62 3 rfl ?_
        obtain ⟨c_12, h⟩ := h
        refine r_iast hC (pc := 63) ra5_66 c_12 dX12_place_63 (fun s_13 h_s_13 => ?_)
        have h := h s_13 h_s_13
        refine k_aload_n hC (pc := 64) dX12_place_64 0 rfl ?_
        refine gf_X12_67 hC (pc := 65)  fl_RX12_167 dX12_place_65 ?_
        refine k_aload_n hC (pc := 68) dX12_place_68 0 rfl ?_
        refine gf_X12_63 hC (pc := 69)  fl_RX12_317 dX12_place_69 ?_
        refine k_iload hC (pc := 72) dX12_place_72 4 rfl ?_
        obtain ⟨c_14, h⟩ := h
        refine r_zast hC (pc := 74) ra5_67 c_14 dX12_place_74 (fun s_15 h_s_15 => ?_)
        have h := h s_15 h_s_15
        refine k_aload_n hC (pc := 75) dX12_place_75 0 rfl ?_
        refine k_dup hC (pc := 76) dX12_place_76 rfl ?_
        refine gf_X12_63 hC (pc := 77)  fl_RX12_317 dX12_place_77 ?_
        refine k_iconst hC (pc := 80) (v := 1) dX12_place_80 ic_1 ?_
        refine k_iadd hC (pc := 81) dX12_place_81 ?_
        refine pf_X12_63 hC (pc := 82)  fl_RX12_317 dX12_place_82 (fun s_16 h_s_16 => ?_)
        have h := h s_16 h_s_16
        refine k_aload_n hC (pc := 85) dX12_place_85 0 rfl ?_
        refine gf_X12_63 hC (pc := 86)  fl_RX12_317 dX12_place_86 ?_
        refine k_iconst hC (pc := 89) (v := 1) dX12_place_89 ic_1 ?_
        refine k_isub hC (pc := 90) dX12_place_90 ?_
        exact k_iret hC (pc := 91) hQ hr dX12_place_91 h
      · have h := h.2 c_7
        refine k_bipush hC (pc := 31) (v := (-4)) dX12_place_31 bp_m4 ?_
        exact k_iret hC (pc := 33) hQ hr dX12_place_33 h
    · have h := h.2 c_6
      refine k_bipush hC (pc := 19) (v := (-2)) dX12_place_19 bp_m2 ?_
      exact k_iret hC (pc := 21) hQ hr dX12_place_21 h
theorem ct_X12_place {l : Launch} {G : Gx} {a : Ax} {s : Sx} {N : Nat} {post : Int32 → Sx → Prop} (x1 : Int32) (x2 : Int32) (x3 : Int32) (x4 : Int32) (h : w_X12_place N x1 x2 x3 x4 s post) : Met l yX12_place (Cond.code yX12_place cX12_place 5 (some .int) :: gw) { frames := 2, cells := 0, slots := 0, locals := 43 } (va_Pc [.ref (adr G a 6 0), .int x1, .int x2, .int x3, .int x4] (fun U => FU G a s U)) (Qi G a post) 0 0 (bs_ G) := met_of (plainFor_of_name (by decide)) (Nat.le_of_ble_eq_true rfl) rfl (fun X hC hl hR hQ hr hG hn => by subst hG; exact b_X12_place hC hR hQ hr hn s x1 x2 x3 x4 h)
theorem ca_X12_place : Ca yX12_place cX12_place 5 (some .int) 4 := ⟨cd_X12_place, ii_RX12, by decide, by decide, by decide +kernel⟩
def w_X12_bitsOf_4 (N : Nat) (post : Int32 → Sx → Prop) : Nat → Sx → Int32 → Int32 → Int32 → Prop
  | 0, _, _, _, _ => False
  | n + 1, s, x0, x1, x2 => (8 ≤ x2 → post x1 s) ∧ (¬ (8 ≤ x2) → ∀ x_2 : Int32, x_2 = x1 + ((x0 >>> (x2 &&& 31)) &&& 1) → ∀ x_3 : Int32, x_3 = x2 + 1 → w_X12_bitsOf_4 N post n s x0 x_2 x_3)
def w_X12_bitsOf (N : Nat) (x0 : Int32) (s : Sx) (post : Int32 → Sx → Prop) : Prop := w_X12_bitsOf_4 N post N s x0 0 0
set_option maxHeartbeats 4000000 in
theorem b_X12_bitsOf_4 {X : Kx} {a : Ax} {N : Nat} {post : Int32 → Sx → Prop}  (hC : Cx X cX12_bitsOf 3 RX12) (hR : X.R = { frames := 0, cells := 0, slots := 0, locals := 0 }) (hQ : X.Q = MQ X.below (Qi X.G a post) X.av X.s 0 0 (bs_ X.G)) (hr : X.meth.sig.returnType = (some .int))   : ∀ (n : Nat) (s : Sx) (x0 : Int32) (x1 : Int32) (x2 : Int32), w_X12_bitsOf_4 N post  n s x0 x1 x2 → wk X a s 3 4 [(0, .int x0), (1, .int x1), (2, .int x2)] [] 0 0 := by
  intro n
  induction n with
  | zero => intro s x0 x1 x2 h; exact h.elim
  | succ n ih =>
    intro s x0 x1 x2 h
    unfold w_X12_bitsOf_4 at h
    refine k_iload_n hC (pc := 4) dX12_bitsOf_4 2 rfl ?_
    refine k_bipush hC (pc := 5) (v := 8) dX12_bitsOf_5 bp_8 ?_
    refine k_icmp_ge hC (pc := 7) 24 dX12_bitsOf_7 (by decide) (fun c_1 => ?_) (fun c_1 => ?_)
    · have h := h.1 c_1
      refine k_iload_n hC (pc := 24) dX12_bitsOf_24 1 rfl ?_
      exact k_iret hC (pc := 25) hQ hr dX12_bitsOf_25 h
    · have h := h.2 c_1
      refine k_iload_n hC (pc := 10) dX12_bitsOf_10 1 rfl ?_
      refine k_iload_n hC (pc := 11) dX12_bitsOf_11 0 rfl ?_
      refine k_iload_n hC (pc := 12) dX12_bitsOf_12 2 rfl ?_
      refine k_ishr hC (pc := 13) dX12_bitsOf_13 ?_
      refine k_iconst hC (pc := 14) (v := 1) dX12_bitsOf_14 ic_1 ?_
      refine k_iand hC (pc := 15) dX12_bitsOf_15 ?_
      refine k_iadd hC (pc := 16) dX12_bitsOf_16 ?_
      refine k_topi (fun x_2 h_x_2 => ?_)
      have h := h x_2 h_x_2
      refine k_istore_n hC (pc := 17) dX12_bitsOf_17 [(1, .int x_2), (0, .int x0), (2, .int x2)] (by decide) rfl ?_
      obtain ⟨x_3, h_x_3⟩ : ∃ z : Int32, z = x2 + 1 := ⟨_, rfl⟩
      have h := h x_3 h_x_3
      refine k_iincw hC (pc := 18) dX12_bitsOf_18 2 rfl ic_1 h_x_3.symm [(2, .int x_3), (1, .int x_2), (0, .int x0)] (by decide) rfl ?_
      refine k_goto hC (pc := 21) 4 dX12_bitsOf_21 (by decide) ?_
      refine k_sub [(0, .int x0), (1, .int x_2), (2, .int x_3)] [2, 1, 0] rfl ?_
      exact ih _ _ _ _ h
set_option maxHeartbeats 4000000 in
theorem b_X12_bitsOf {X : Kx} {a : Ax} {N : Nat} {post : Int32 → Sx → Prop} (hC : Cx X cX12_bitsOf 3 RX12) (hR : X.R = { frames := 0, cells := 0, slots := 0, locals := 0 }) (hQ : X.Q = MQ X.below (Qi X.G a post) X.av X.s 0 0 (bs_ X.G)) (hr : X.meth.sig.returnType = (some .int)) (hn : X.meth.name = "bitsOf") (s : Sx) (x0 : Int32) (h : w_X12_bitsOf N x0 s post) : wk X a s 3 0 [(0, .int x0)] [] 0 0 := by
  unfold w_X12_bitsOf at h
  refine k_iconst hC (pc := 0) (v := 0) dX12_bitsOf_0 ic_0 ?_
  refine k_istore_n hC (pc := 1) dX12_bitsOf_1 [(1, .int 0), (0, .int x0)] (by decide) rfl ?_
  refine k_iconst hC (pc := 2) (v := 0) dX12_bitsOf_2 ic_0 ?_
  refine k_istore_n hC (pc := 3) dX12_bitsOf_3 [(2, .int 0), (1, .int 0), (0, .int x0)] (by decide) rfl ?_
  refine k_sub [(0, .int x0), (1, .int 0), (2, .int 0)] [2, 1, 0] rfl ?_
  exact b_X12_bitsOf_4 hC hR hQ hr N _ _ _ _ h
theorem ct_X12_bitsOf {l : Launch} {G : Gx} {a : Ax} {s : Sx} {N : Nat} {post : Int32 → Sx → Prop} (x0 : Int32) (h : w_X12_bitsOf N x0 s post) : Met l yX12_bitsOf (Cond.code yX12_bitsOf cX12_bitsOf 3 (some .int) :: gw) { frames := 0, cells := 0, slots := 0, locals := 0 } (va_Pc [.int x0] (fun U => FU G a s U)) (Qi G a post) 0 0 (bs_ G) := met_of (plainFor_of_name (by decide)) (Nat.le_of_ble_eq_true rfl) rfl (fun X hC hl hR hQ hr hG hn => by subst hG; exact b_X12_bitsOf hC hR hQ hr hn s x0 h)
theorem ca_X12_bitsOf : Ca yX12_bitsOf cX12_bitsOf 3 (some .int) 1 := ⟨cd_X12_bitsOf, ii_RX12, by decide, by decide, by decide +kernel⟩
def w_X12_gainOf (N : Nat) (x1 : Int32) (x2 : Int32) (s : Sx) (post : Int64 → Sx → Prop) : Prop := vp_in x2 8 ∧ vp_in x1 7 ∧ vp_in x2 8 ∧ w_X12_size N ((s.1 5 6 x1.toNatClampNeg) - (s.1 5 64 x2.toNatClampNeg)) s (fun r_5 s_4 => vp_in x1 7 ∧ vp_in x2 8 ∧ w_X12_size N ((s_4.1 5 7 x1.toNatClampNeg) - (s_4.1 5 65 x2.toNatClampNeg)) s_4 (fun r_9 s_8 => post ((((s.1 5 66 x2.toNatClampNeg) - r_5) - r_9).toInt64) s_8))
set_option maxHeartbeats 4000000 in
theorem b_X12_gainOf {X : Kx} {a : Ax} {N : Nat} {post : Int64 → Sx → Prop} (hC : Cx X cX12_gainOf 3 RX12) (hR : X.R = { frames := 1, cells := 0, slots := 0, locals := 20 }) (hQ : X.Q = MQ X.below (Ql X.G a post) X.av X.s 0 0 (bs_ X.G)) (hr : X.meth.sig.returnType = (some .long)) (hn : X.meth.name = "gainOf") (s : Sx) (x1 : Int32) (x2 : Int32) (h : w_X12_gainOf N x1 x2 s post) : wk X a s 3 0 [(0, .ref (adr X.G a 6 0)), (1, .int x1), (2, .int x2)] [] 0 0 := by
  unfold w_X12_gainOf at h
  refine k_aload_n hC (pc := 0) dX12_gainOf_0 0 rfl ?_
  refine gf_X12_66 hC (pc := 1)  fl_RX12_164 dX12_gainOf_1 ?_
  refine k_iload_n hC (pc := 4) dX12_gainOf_4 2 rfl ?_
  obtain ⟨c_1, h⟩ := h
  refine r_iald hC (pc := 5) ra5_66 c_1 dX12_gainOf_5 ?_
  refine k_aload_n hC (pc := 6) dX12_gainOf_6 0 rfl ?_
  refine gf_X12_6 hC (pc := 7)  fl_RX12_19 dX12_gainOf_7 ?_
  refine k_iload_n hC (pc := 10) dX12_gainOf_10 1 rfl ?_
  obtain ⟨c_2, h⟩ := h
  refine r_iald hC (pc := 11) ra5_6 c_2 dX12_gainOf_11 ?_
  refine k_aload_n hC (pc := 12) dX12_gainOf_12 0 rfl ?_
  refine gf_X12_64 hC (pc := 13)  fl_RX12_158 dX12_gainOf_13 ?_
  refine k_iload_n hC (pc := 16) dX12_gainOf_16 2 rfl ?_
  obtain ⟨c_3, h⟩ := h
  refine r_iald hC (pc := 17) ra5_64 c_3 dX12_gainOf_17 ?_
  refine k_isub hC (pc := 18) dX12_gainOf_18 ?_
  refine k_ci (rn_S hC (pc := 19) (As := [.int ((s.1 5 6 x1.toNatClampNeg) - (s.1 5 64 x2.toNatClampNeg))]) (rest := [.int (s.1 5 66 x2.toNatClampNeg)]) ca_X12_size ml_RX12_294 sm_X12_size (ct_X12_size ((s.1 5 6 x1.toNatClampNeg) - (s.1 5 64 x2.toNatClampNeg)) h) (by rw [hR]; exact ⟨rfl, rfl, by decide, by decide⟩) rfl (Nat.le_of_ble_eq_true rfl) dX12_gainOf_19 ⟨by rw [hR]; decide, by rw [hR]; decide⟩) (fun r_5 s_4 h => ?_)
  refine k_isub hC (pc := 22) dX12_gainOf_22 ?_
  refine k_aload_n hC (pc := 23) dX12_gainOf_23 0 rfl ?_
  refine gf_X12_7 hC (pc := 24)  fl_RX12_22 dX12_gainOf_24 ?_
  refine k_iload_n hC (pc := 27) dX12_gainOf_27 1 rfl ?_
  obtain ⟨c_6, h⟩ := h
  refine r_iald hC (pc := 28) ra5_7 c_6 dX12_gainOf_28 ?_
  refine k_aload_n hC (pc := 29) dX12_gainOf_29 0 rfl ?_
  refine gf_X12_65 hC (pc := 30)  fl_RX12_161 dX12_gainOf_30 ?_
  refine k_iload_n hC (pc := 33) dX12_gainOf_33 2 rfl ?_
  obtain ⟨c_7, h⟩ := h
  refine r_iald hC (pc := 34) ra5_65 c_7 dX12_gainOf_34 ?_
  refine k_isub hC (pc := 35) dX12_gainOf_35 ?_
  refine k_ci (rn_S hC (pc := 36) (As := [.int ((s_4.1 5 7 x1.toNatClampNeg) - (s_4.1 5 65 x2.toNatClampNeg))]) (rest := [.int ((s.1 5 66 x2.toNatClampNeg) - r_5)]) ca_X12_size ml_RX12_294 sm_X12_size (ct_X12_size ((s_4.1 5 7 x1.toNatClampNeg) - (s_4.1 5 65 x2.toNatClampNeg)) h) (by rw [hR]; exact ⟨rfl, rfl, by decide, by decide⟩) rfl (Nat.le_of_ble_eq_true rfl) dX12_gainOf_36 ⟨by rw [hR]; decide, by rw [hR]; decide⟩) (fun r_9 s_8 h => ?_)
  refine k_isub hC (pc := 39) dX12_gainOf_39 ?_
  refine k_i2l hC (pc := 40) dX12_gainOf_40 ?_
  exact k_lret hC (pc := 41) hQ hr dX12_gainOf_41 h
theorem ct_X12_gainOf {l : Launch} {G : Gx} {a : Ax} {s : Sx} {N : Nat} {post : Int64 → Sx → Prop} (x1 : Int32) (x2 : Int32) (h : w_X12_gainOf N x1 x2 s post) : Met l yX12_gainOf (Cond.code yX12_gainOf cX12_gainOf 3 (some .long) :: gw) { frames := 1, cells := 0, slots := 0, locals := 20 } (va_Pc [.ref (adr G a 6 0), .int x1, .int x2] (fun U => FU G a s U)) (Ql G a post) 0 0 (bs_ G) := met_of (plainFor_of_name (by decide)) (Nat.le_of_ble_eq_true rfl) rfl (fun X hC hl hR hQ hr hG hn => by subst hG; exact b_X12_gainOf hC hR hQ hr hn s x1 x2 h)
theorem ca_X12_gainOf : Ca yX12_gainOf cX12_gainOf 3 (some .long) 2 := ⟨cd_X12_gainOf, ii_RX12, by decide, by decide, by decide +kernel⟩
def w_X12_layMoves_155 (N : Nat) (post : Sx → Prop) (K9 : Sx → Int32 → Prop) (K41 : Sx → Int32 → Int32 → Int32 → Prop) (s : Sx) (x1 : Int32) (x2 : Int32) (x3 : Int32) (z1 : Int32) (z2 : Int64) : Prop := vp_in z1 256 ∧ ∀ s_26, s_26 = setJ s 5 68 z1.toNatClampNeg z2 → ∀ x_27 : Int32, x_27 = x3 + 1 → K41 s_26 x1 x2 x_27
def w_X12_layMoves_144 (N : Nat) (post : Sx → Prop) (K9 : Sx → Int32 → Prop) (K41 : Sx → Int32 → Int32 → Int32 → Prop) (s : Sx) (x1 : Int32) (x2 : Int32) (x3 : Int32) (y4 : Int64) (z1 : Int32) : Prop := w_X12_layMoves_155 N post K9 K41 s x1 x2 x3 z1 y4
def w_X12_layMoves_41 (N : Nat) (post : Sx → Prop) (K9 : Sx → Int32 → Prop) : Nat → Sx → Int32 → Int32 → Int32 → Prop
  | 0, _, _, _, _ => False
  | n + 1, s, x1, x2, x3 => ((s.1 6 0 63) ≤ x3 → ∀ x_9 : Int32, x_9 = x1 + (-1) → K9 s x_9) ∧ (¬ ((s.1 6 0 63) ≤ x3) → ((s.1 6 0 5) ≤ x2 → ∀ x_11 : Int32, x_11 = x1 + (-1) → K9 s x_11) ∧ (¬ ((s.1 6 0 5) ≤ x2) → (((x1 >>> (x3 &&& 31)) &&& 1) = 1 → ∀ x_13 : Int32, x_13 = x3 + 1 → w_X12_layMoves_41 N post K9 n s x1 x2 x_13) ∧ (¬ (((x1 >>> (x3 &&& 31)) &&& 1) = 1) → vp_in x3 8 ∧ ((s.1 5 67 x3.toNatClampNeg) = 0 → ∀ x_16 : Int32, x_16 = x3 + 1 → w_X12_layMoves_41 N post K9 n s x1 x2 x_16) ∧ (¬ ((s.1 5 67 x3.toNatClampNeg) = 0) → vp_in (x1 ||| (1 <<< (x3 &&& 31))) 256 ∧ (¬ (lg_cmp (s.2.1 5 68 (x1 ||| (1 <<< (x3 &&& 31))).toNatClampNeg) ((-9223372036854775808))) = 0 → w_X12_gainOf N x2 x3 s (fun r_20 s_19 => vp_in (x1 ||| (1 <<< (x3 &&& 31))) 256 ∧ ∀ x_22 : Int64, x_22 = r_20 + (s_19.2.1 5 68 (x1 ||| (1 <<< (x3 &&& 31))).toNatClampNeg) → vp_in x1 256 ∧ ((lg_cmp (s_19.2.1 5 68 x1.toNatClampNeg) ((-9223372036854775808))) = 0 → w_X12_layMoves_144 N post K9 (w_X12_layMoves_41 N post K9 n) s_19 x1 x2 x3 x_22 x1) ∧ (¬ ((lg_cmp (s_19.2.1 5 68 x1.toNatClampNeg) ((-9223372036854775808))) = 0) → vp_in x1 256 ∧ ((lg_cmp x_22 (s_19.2.1 5 68 x1.toNatClampNeg)) ≤ 0 → vp_in x1 256 ∧ w_X12_layMoves_155 N post K9 (w_X12_layMoves_41 N post K9 n) s_19 x1 x2 x3 x1 (s_19.2.1 5 68 x1.toNatClampNeg)) ∧ (¬ ((lg_cmp x_22 (s_19.2.1 5 68 x1.toNatClampNeg)) ≤ 0) → w_X12_layMoves_144 N post K9 (w_X12_layMoves_41 N post K9 n) s_19 x1 x2 x3 x_22 x1)))) ∧ (¬ (¬ (lg_cmp (s.2.1 5 68 (x1 ||| (1 <<< (x3 &&& 31))).toNatClampNeg) ((-9223372036854775808))) = 0) → ∀ x_31 : Int32, x_31 = x3 + 1 → w_X12_layMoves_41 N post K9 n s x1 x2 x_31)))))
def w_X12_layMoves_38 (N : Nat) (post : Sx → Prop) (K9 : Sx → Int32 → Prop) (s : Sx) (x1 : Int32) (x2 : Int32) (z1 : Int32) (z2 : Int64) : Prop := vp_in z1 256 ∧ ∀ s_7, s_7 = setJ s 5 68 z1.toNatClampNeg z2 → w_X12_layMoves_41 N post K9 N s_7 x1 x2 0
def w_X12_layMoves_9 (N : Nat) (post : Sx → Prop) : Nat → Sx → Int32 → Prop
  | 0, _, _ => False
  | n + 1, s, x1 => (x1 < 0 → post s) ∧ (¬ (x1 < 0) → w_X12_bitsOf N x1 s (fun r_4 s_3 => (¬ r_4 = (s_3.1 6 0 5) → w_X12_layMoves_38 N post (w_X12_layMoves_9 N post n) s_3 x1 r_4 x1 ((-9223372036854775808))) ∧ (¬ (¬ r_4 = (s_3.1 6 0 5)) → w_X12_layMoves_38 N post (w_X12_layMoves_9 N post n) s_3 x1 r_4 x1 0)))
def w_X12_layMoves (N : Nat) (s : Sx) (post : Sx → Prop) : Prop := ∀ x_1 : Int32, x_1 = (1 <<< ((s.1 6 0 63) &&& 31)) - 1 → w_X12_layMoves_9 N post N s x_1
set_option maxHeartbeats 4000000 in
theorem b_X12_layMoves_155 {X : Kx} {a : Ax} {N : Nat} {post : Sx → Prop} {K9 : Sx → Int32 → Prop} {K41 : Sx → Int32 → Int32 → Int32 → Prop}  (hC : Cx X cX12_layMoves 6 RX12) (hR : X.R = { frames := 2, cells := 0, slots := 0, locals := 42 }) (hQ : X.Q = MQ X.below (Qv X.G a post) X.av X.s 0 0 (bs_ X.G)) (hr : X.meth.sig.returnType = none)  (hK9 : ∀ (s : Sx) (x1 : Int32), K9 s x1 → wk X a s 6 9 [(0, .ref (adr X.G a 6 0)), (1, .int x1)] [] 0 0) (hK41 : ∀ (s : Sx) (x1 : Int32) (x2 : Int32) (x3 : Int32), K41 s x1 x2 x3 → wk X a s 6 41 [(0, .ref (adr X.G a 6 0)), (1, .int x1), (2, .int x2), (3, .int x3)] [] 0 0) (s : Sx) (x1 : Int32) (x2 : Int32) (x3 : Int32) (z1 : Int32) (z2 : Int64) (h : w_X12_layMoves_155 N post K9 K41 s x1 x2 x3 z1 z2) : wk X a s 6 155 [(0, .ref (adr X.G a 6 0)), (1, .int x1), (2, .int x2), (3, .int x3)] [.long z2, .int z1, .ref (adr X.G a 5 68)] 0 0 := by
  unfold w_X12_layMoves_155 at h
  obtain ⟨c_25, h⟩ := h
  refine r_last hC (pc := 155) ra5_68 c_25 dX12_layMoves_155 (fun s_26 h_s_26 => ?_)
  have h := h s_26 h_s_26
  obtain ⟨x_27, h_x_27⟩ : ∃ z : Int32, z = x3 + 1 := ⟨_, rfl⟩
  have h := h x_27 h_x_27
  refine k_iincw hC (pc := 156) dX12_layMoves_156 3 rfl ic_1 h_x_27.symm [(3, .int x_27), (0, .ref (adr X.G a 6 0)), (1, .int x1), (2, .int x2)] (by decide) rfl ?_
  refine k_goto hC (pc := 159) 41 dX12_layMoves_159 (by decide) ?_
  refine k_sub [(0, .ref (adr X.G a 6 0)), (1, .int x1), (2, .int x2), (3, .int x_27)] [1, 2, 3, 0] rfl ?_
  exact hK41 _ _ _ _ h
set_option maxHeartbeats 4000000 in
theorem b_X12_layMoves_144 {X : Kx} {a : Ax} {N : Nat} {post : Sx → Prop} {K9 : Sx → Int32 → Prop} {K41 : Sx → Int32 → Int32 → Int32 → Prop}  (hC : Cx X cX12_layMoves 6 RX12) (hR : X.R = { frames := 2, cells := 0, slots := 0, locals := 42 }) (hQ : X.Q = MQ X.below (Qv X.G a post) X.av X.s 0 0 (bs_ X.G)) (hr : X.meth.sig.returnType = none)  (hK9 : ∀ (s : Sx) (x1 : Int32), K9 s x1 → wk X a s 6 9 [(0, .ref (adr X.G a 6 0)), (1, .int x1)] [] 0 0) (hK41 : ∀ (s : Sx) (x1 : Int32) (x2 : Int32) (x3 : Int32), K41 s x1 x2 x3 → wk X a s 6 41 [(0, .ref (adr X.G a 6 0)), (1, .int x1), (2, .int x2), (3, .int x3)] [] 0 0) (s : Sx) (x1 : Int32) (x2 : Int32) (x3 : Int32) (y4 : Int64) (z1 : Int32) (h : w_X12_layMoves_144 N post K9 K41 s x1 x2 x3 y4 z1) : wk X a s 6 144 [(0, .ref (adr X.G a 6 0)), (1, .int x1), (2, .int x2), (3, .int x3), (4, .long y4)] [.int z1, .ref (adr X.G a 5 68)] 0 0 := by
  unfold w_X12_layMoves_144 at h
  refine k_lload hC (pc := 144) dX12_layMoves_144 4 rfl ?_
  refine k_goto hC (pc := 146) 155 dX12_layMoves_146 (by decide) ?_
  refine k_sub [(0, .ref (adr X.G a 6 0)), (1, .int x1), (2, .int x2), (3, .int x3)] [0, 1, 2, 3] rfl ?_
  exact b_X12_layMoves_155 hC hR hQ hr hK9 hK41 _ _ _ _ _ _ h
set_option maxHeartbeats 4000000 in
theorem b_X12_layMoves_41 {X : Kx} {a : Ax} {N : Nat} {post : Sx → Prop} {K9 : Sx → Int32 → Prop}  (hC : Cx X cX12_layMoves 6 RX12) (hR : X.R = { frames := 2, cells := 0, slots := 0, locals := 42 }) (hQ : X.Q = MQ X.below (Qv X.G a post) X.av X.s 0 0 (bs_ X.G)) (hr : X.meth.sig.returnType = none)  (hK9 : ∀ (s : Sx) (x1 : Int32), K9 s x1 → wk X a s 6 9 [(0, .ref (adr X.G a 6 0)), (1, .int x1)] [] 0 0) : ∀ (n : Nat) (s : Sx) (x1 : Int32) (x2 : Int32) (x3 : Int32), w_X12_layMoves_41 N post K9 n s x1 x2 x3 → wk X a s 6 41 [(0, .ref (adr X.G a 6 0)), (1, .int x1), (2, .int x2), (3, .int x3)] [] 0 0 := by
  intro n
  induction n with
  | zero => intro s x1 x2 x3 h; exact h.elim
  | succ n ih =>
    intro s x1 x2 x3 h
    unfold w_X12_layMoves_41 at h
    refine k_iload_n hC (pc := 41) dX12_layMoves_41 3 rfl ?_
    refine k_aload_n hC (pc := 42) dX12_layMoves_42 0 rfl ?_
    refine gf_X12_63 hC (pc := 43)  fl_RX12_317 dX12_layMoves_43 ?_
    refine k_icmp_ge hC (pc := 46) 162 dX12_layMoves_46 (by decide) (fun c_8 => ?_) (fun c_8 => ?_)
    · have h := h.1 c_8
      obtain ⟨x_9, h_x_9⟩ : ∃ z : Int32, z = x1 + (-1) := ⟨_, rfl⟩
      have h := h x_9 h_x_9
      refine k_iincw hC (pc := 162) dX12_layMoves_162 1 rfl ic_m1 h_x_9.symm [(1, .int x_9), (0, .ref (adr X.G a 6 0)), (2, .int x2), (3, .int x3)] (by decide) rfl ?_
      refine k_goto hC (pc := 165) 9 dX12_layMoves_165 (by decide) ?_
      refine k_sub [(0, .ref (adr X.G a 6 0)), (1, .int x_9)] [1, 0] rfl ?_
      exact hK9 _ _ h
    · have h := h.2 c_8
      refine k_iload_n hC (pc := 49) dX12_layMoves_49 2 rfl ?_
      refine k_aload_n hC (pc := 50) dX12_layMoves_50 0 rfl ?_
      refine gf_X12_5 hC (pc := 51)  fl_RX12_190 dX12_layMoves_51 ?_
      refine k_icmp_ge hC (pc := 54) 162 dX12_layMoves_54 (by decide) (fun c_10 => ?_) (fun c_10 => ?_)
      · have h := h.1 c_10
        obtain ⟨x_11, h_x_11⟩ : ∃ z : Int32, z = x1 + (-1) := ⟨_, rfl⟩
        have h := h x_11 h_x_11
        refine k_iincw hC (pc := 162) dX12_layMoves_162 1 rfl ic_m1 h_x_11.symm [(1, .int x_11), (0, .ref (adr X.G a 6 0)), (2, .int x2), (3, .int x3)] (by decide) rfl ?_
        refine k_goto hC (pc := 165) 9 dX12_layMoves_165 (by decide) ?_
        refine k_sub [(0, .ref (adr X.G a 6 0)), (1, .int x_11)] [1, 0] rfl ?_
        exact hK9 _ _ h
      · have h := h.2 c_10
        refine k_iload_n hC (pc := 57) dX12_layMoves_57 1 rfl ?_
        refine k_iload_n hC (pc := 58) dX12_layMoves_58 3 rfl ?_
        refine k_ishr hC (pc := 59) dX12_layMoves_59 ?_
        refine k_iconst hC (pc := 60) (v := 1) dX12_layMoves_60 ic_1 ?_
        refine k_iand hC (pc := 61) dX12_layMoves_61 ?_
        refine k_iconst hC (pc := 62) (v := 1) dX12_layMoves_62 ic_1 ?_
        refine k_icmp_eq hC (pc := 63) 156 dX12_layMoves_63 (by decide) (fun c_12 => ?_) (fun c_12 => ?_)
        · have h := h.1 c_12
          obtain ⟨x_13, h_x_13⟩ : ∃ z : Int32, z = x3 + 1 := ⟨_, rfl⟩
          have h := h x_13 h_x_13
          refine k_iincw hC (pc := 156) dX12_layMoves_156 3 rfl ic_1 h_x_13.symm [(3, .int x_13), (0, .ref (adr X.G a 6 0)), (1, .int x1), (2, .int x2)] (by decide) rfl ?_
          refine k_goto hC (pc := 159) 41 dX12_layMoves_159 (by decide) ?_
          refine k_sub [(0, .ref (adr X.G a 6 0)), (1, .int x1), (2, .int x2), (3, .int x_13)] [1, 2, 3, 0] rfl ?_
          exact ih _ _ _ _ h
        · have h := h.2 c_12
          refine k_aload_n hC (pc := 66) dX12_layMoves_66 0 rfl ?_
          refine gf_X12_67 hC (pc := 67)  fl_RX12_167 dX12_layMoves_67 ?_
          refine k_iload_n hC (pc := 70) dX12_layMoves_70 3 rfl ?_
          obtain ⟨c_14, h⟩ := h
          refine r_zald hC (pc := 71) ra5_67 c_14 dX12_layMoves_71 ?_
          refine k_if_eq hC (pc := 72) 156 dX12_layMoves_72 (by decide) (fun c_15 => ?_) (fun c_15 => ?_)
          · have h := h.1 c_15
            obtain ⟨x_16, h_x_16⟩ : ∃ z : Int32, z = x3 + 1 := ⟨_, rfl⟩
            have h := h x_16 h_x_16
            refine k_iincw hC (pc := 156) dX12_layMoves_156 3 rfl ic_1 h_x_16.symm [(3, .int x_16), (0, .ref (adr X.G a 6 0)), (1, .int x1), (2, .int x2)] (by decide) rfl ?_
            refine k_goto hC (pc := 159) 41 dX12_layMoves_159 (by decide) ?_
            refine k_sub [(0, .ref (adr X.G a 6 0)), (1, .int x1), (2, .int x2), (3, .int x_16)] [1, 2, 3, 0] rfl ?_
            exact ih _ _ _ _ h
          · have h := h.2 c_15
            refine k_aload_n hC (pc := 75) dX12_layMoves_75 0 rfl ?_
            refine gf_X12_68 hC (pc := 76)  fl_RX12_171 dX12_layMoves_76 ?_
            refine k_iload_n hC (pc := 79) dX12_layMoves_79 1 rfl ?_
            refine k_iconst hC (pc := 80) (v := 1) dX12_layMoves_80 ic_1 ?_
            refine k_iload_n hC (pc := 81) dX12_layMoves_81 3 rfl ?_
            refine k_ishl hC (pc := 82) dX12_layMoves_82 ?_
            refine k_ior hC (pc := 83) dX12_layMoves_83 ?_
            obtain ⟨c_17, h⟩ := h
            refine r_lald hC (pc := 84) ra5_68 c_17 dX12_layMoves_84 ?_
            refine k_ldc2 hC (pc := 85) dX12_layMoves_85 cn_RX12_184 ?_
            refine k_lcmp hC (pc := 88) dX12_layMoves_88 ?_
            refine k_if_ne hC (pc := 89) 95 dX12_layMoves_89 (by decide) (fun c_18 => ?_) (fun c_18 => ?_)
            · have h := h.1 c_18
              refine k_aload_n hC (pc := 95) dX12_layMoves_95 0 rfl ?_
              refine k_iload_n hC (pc := 96) dX12_layMoves_96 2 rfl ?_
              refine k_iload_n hC (pc := 97) dX12_layMoves_97 3 rfl ?_
              refine k_cl (rn_V hC (pc := 98) (As := [.int x2, .int x3]) (rest := []) ca_X12_gainOf ml_RX12_323 im_X12_gainOf se_X12_gainOf (fx_in f6_0) (ob6_0 _ _ _ _ _) rfl rfl (ct_X12_gainOf x2 x3 h) (by rw [hR]; exact ⟨rfl, rfl, by decide, by decide⟩) rfl (Nat.le_of_ble_eq_true rfl) dX12_layMoves_98 ⟨by rw [hR]; decide, by rw [hR]; decide⟩) (fun r_20 s_19 h => ?_)
              refine k_aload_n hC (pc := 101) dX12_layMoves_101 0 rfl ?_
              refine gf_X12_68 hC (pc := 102)  fl_RX12_171 dX12_layMoves_102 ?_
              refine k_iload_n hC (pc := 105) dX12_layMoves_105 1 rfl ?_
              refine k_iconst hC (pc := 106) (v := 1) dX12_layMoves_106 ic_1 ?_
              refine k_iload_n hC (pc := 107) dX12_layMoves_107 3 rfl ?_
              refine k_ishl hC (pc := 108) dX12_layMoves_108 ?_
              refine k_ior hC (pc := 109) dX12_layMoves_109 ?_
              obtain ⟨c_21, h⟩ := h
              refine r_lald hC (pc := 110) ra5_68 c_21 dX12_layMoves_110 ?_
              refine k_ladd hC (pc := 111) dX12_layMoves_111 ?_
              refine k_topl (fun x_22 h_x_22 => ?_)
              have h := h x_22 h_x_22
              refine k_lstore hC (pc := 112) dX12_layMoves_112 [(4, .long x_22), (0, .ref (adr X.G a 6 0)), (1, .int x1), (2, .int x2), (3, .int x3)] (by decide) rfl ?_
              refine k_aload_n hC (pc := 114) dX12_layMoves_114 1 rfl ?_
              refine gf_X12_68 hC (pc := 115)  fl_RX12_171 dX12_layMoves_115 ?_
              refine k_iload_n hC (pc := 118) dX12_layMoves_118 2 rfl ?_
              refine k_aload_n hC (pc := 119) dX12_layMoves_119 1 rfl ?_
              refine gf_X12_68 hC (pc := 120)  fl_RX12_171 dX12_layMoves_120 ?_
              refine k_iload_n hC (pc := 123) dX12_layMoves_123 2 rfl ?_
              obtain ⟨c_23, h⟩ := h
              refine r_lald hC (pc := 124) ra5_68 c_23 dX12_layMoves_124 ?_
              refine k_ldc2 hC (pc := 125) dX12_layMoves_125 cn_RX12_184 ?_
              refine k_lcmp hC (pc := 128) dX12_layMoves_128 ?_
              refine k_if_eq hC (pc := 129) 144 dX12_layMoves_129 (by decide) (fun c_24 => ?_) (fun c_24 => ?_)
              · have h := h.1 c_24
                refine k_sub [(0, .ref (adr X.G a 6 0)), (1, .int x1), (2, .int x2), (3, .int x3), (4, .long x_22)] [1, 2, 3, 4, 0] rfl ?_
                exact b_X12_layMoves_144 hC hR hQ hr hK9 ih _ _ _ _ _ _ h
              · have h := h.2 c_24
                refine k_lload hC (pc := 132) dX12_layMoves_132 0 rfl ?_
                refine k_aload_n hC (pc := 134) dX12_layMoves_134 1 rfl ?_
                refine gf_X12_68 hC (pc := 135)  fl_RX12_171 dX12_layMoves_135 ?_
                refine k_iload_n hC (pc := 138) dX12_layMoves_138 2 rfl ?_
                obtain ⟨c_28, h⟩ := h
                refine r_lald hC (pc := 139) ra5_68 c_28 dX12_layMoves_139 ?_
                refine k_lcmp hC (pc := 140) dX12_layMoves_140 ?_
                refine k_if_le hC (pc := 141) 149 dX12_layMoves_141 (by decide) (fun c_29 => ?_) (fun c_29 => ?_)
                · have h := h.1 c_29
                  refine k_aload_n hC (pc := 149) dX12_layMoves_149 1 rfl ?_
                  refine gf_X12_68 hC (pc := 150)  fl_RX12_171 dX12_layMoves_150 ?_
                  refine k_iload_n hC (pc := 153) dX12_layMoves_153 2 rfl ?_
                  obtain ⟨c_30, h⟩ := h
                  refine r_lald hC (pc := 154) ra5_68 c_30 dX12_layMoves_154 ?_
                  refine k_sub [(0, .ref (adr X.G a 6 0)), (1, .int x1), (2, .int x2), (3, .int x3)] [1, 2, 3, 4] rfl ?_
                  exact b_X12_layMoves_155 hC hR hQ hr hK9 ih _ _ _ _ _ _ h
                · have h := h.2 c_29
                  refine k_sub [(0, .ref (adr X.G a 6 0)), (1, .int x1), (2, .int x2), (3, .int x3), (4, .long x_22)] [1, 2, 3, 4, 0] rfl ?_
                  exact b_X12_layMoves_144 hC hR hQ hr hK9 ih _ _ _ _ _ _ h
            · have h := h.2 c_18
              refine k_goto hC (pc := 92) 156 dX12_layMoves_92 (by decide) ?_
              obtain ⟨x_31, h_x_31⟩ : ∃ z : Int32, z = x3 + 1 := ⟨_, rfl⟩
              have h := h x_31 h_x_31
              refine k_iincw hC (pc := 156) dX12_layMoves_156 3 rfl ic_1 h_x_31.symm [(3, .int x_31), (0, .ref (adr X.G a 6 0)), (1, .int x1), (2, .int x2)] (by decide) rfl ?_
              refine k_goto hC (pc := 159) 41 dX12_layMoves_159 (by decide) ?_
              refine k_sub [(0, .ref (adr X.G a 6 0)), (1, .int x1), (2, .int x2), (3, .int x_31)] [1, 2, 3, 0] rfl ?_
              exact ih _ _ _ _ h
set_option maxHeartbeats 4000000 in
theorem b_X12_layMoves_38 {X : Kx} {a : Ax} {N : Nat} {post : Sx → Prop} {K9 : Sx → Int32 → Prop}  (hC : Cx X cX12_layMoves 6 RX12) (hR : X.R = { frames := 2, cells := 0, slots := 0, locals := 42 }) (hQ : X.Q = MQ X.below (Qv X.G a post) X.av X.s 0 0 (bs_ X.G)) (hr : X.meth.sig.returnType = none)  (hK9 : ∀ (s : Sx) (x1 : Int32), K9 s x1 → wk X a s 6 9 [(0, .ref (adr X.G a 6 0)), (1, .int x1)] [] 0 0) (s : Sx) (x1 : Int32) (x2 : Int32) (z1 : Int32) (z2 : Int64) (h : w_X12_layMoves_38 N post K9 s x1 x2 z1 z2) : wk X a s 6 38 [(0, .ref (adr X.G a 6 0)), (1, .int x1), (2, .int x2)] [.long z2, .int z1, .ref (adr X.G a 5 68)] 0 0 := by
  unfold w_X12_layMoves_38 at h
  obtain ⟨c_6, h⟩ := h
  refine r_last hC (pc := 38) ra5_68 c_6 dX12_layMoves_38 (fun s_7 h_s_7 => ?_)
  have h := h s_7 h_s_7
  refine k_iconst hC (pc := 39) (v := 0) dX12_layMoves_39 ic_0 ?_
  refine k_istore_n hC (pc := 40) dX12_layMoves_40 [(3, .int 0), (0, .ref (adr X.G a 6 0)), (1, .int x1), (2, .int x2)] (by decide) rfl ?_
  refine k_sub [(0, .ref (adr X.G a 6 0)), (1, .int x1), (2, .int x2), (3, .int 0)] [1, 2, 3, 0] rfl ?_
  exact b_X12_layMoves_41 hC hR hQ hr hK9 N _ _ _ _ h
set_option maxHeartbeats 4000000 in
theorem b_X12_layMoves_9 {X : Kx} {a : Ax} {N : Nat} {post : Sx → Prop}  (hC : Cx X cX12_layMoves 6 RX12) (hR : X.R = { frames := 2, cells := 0, slots := 0, locals := 42 }) (hQ : X.Q = MQ X.below (Qv X.G a post) X.av X.s 0 0 (bs_ X.G)) (hr : X.meth.sig.returnType = none)   : ∀ (n : Nat) (s : Sx) (x1 : Int32), w_X12_layMoves_9 N post  n s x1 → wk X a s 6 9 [(0, .ref (adr X.G a 6 0)), (1, .int x1)] [] 0 0 := by
  intro n
  induction n with
  | zero => intro s x1 h; exact h.elim
  | succ n ih =>
    intro s x1 h
    unfold w_X12_layMoves_9 at h
    refine k_iload_n hC (pc := 9) dX12_layMoves_9 1 rfl ?_
    refine k_if_lt hC (pc := 10) 168 dX12_layMoves_10 (by decide) (fun c_2 => ?_) (fun c_2 => ?_)
    · have h := h.1 c_2
      exact k_vret hC (pc := 168) hQ hr dX12_layMoves_168 h
    · have h := h.2 c_2
      refine k_iload_n hC (pc := 13) dX12_layMoves_13 1 rfl ?_
      refine k_ci (rn_S hC (pc := 14) (As := [.int x1]) (rest := []) ca_X12_bitsOf ml_RX12_320 sm_X12_bitsOf (ct_X12_bitsOf x1 h) (by rw [hR]; exact ⟨rfl, rfl, by decide, by decide⟩) rfl (Nat.le_of_ble_eq_true rfl) dX12_layMoves_14 ⟨by rw [hR]; decide, by rw [hR]; decide⟩) (fun r_4 s_3 h => ?_)
      refine k_istore_n hC (pc := 17) dX12_layMoves_17 [(2, .int r_4), (0, .ref (adr X.G a 6 0)), (1, .int x1)] (by decide) rfl ?_
      refine k_aload_n hC (pc := 18) dX12_layMoves_18 1 rfl ?_
      refine gf_X12_68 hC (pc := 19)  fl_RX12_171 dX12_layMoves_19 ?_
      refine k_iload_n hC (pc := 22) dX12_layMoves_22 2 rfl ?_
      refine k_iload_n hC (pc := 23) dX12_layMoves_23 0 rfl ?_
      refine k_aload_n hC (pc := 24) dX12_layMoves_24 1 rfl ?_
      refine gf_X12_5 hC (pc := 25)  fl_RX12_190 dX12_layMoves_25 ?_
      refine k_icmp_ne hC (pc := 28) 35 dX12_layMoves_28 (by decide) (fun c_5 => ?_) (fun c_5 => ?_)
      · have h := h.1 c_5
        refine k_ldc2 hC (pc := 35) dX12_layMoves_35 cn_RX12_184 ?_
        refine k_sub [(0, .ref (adr X.G a 6 0)), (1, .int x1), (2, .int r_4)] [1, 2, 0] rfl ?_
        exact b_X12_layMoves_38 hC hR hQ hr ih _ _ _ _ _ h
      · have h := h.2 c_5
        refine k_lconst hC (pc := 31) (v := 0) dX12_layMoves_31 rfl ?_
        refine k_goto hC (pc := 32) 38 dX12_layMoves_32 (by decide) ?_
        refine k_sub [(0, .ref (adr X.G a 6 0)), (1, .int x1), (2, .int r_4)] [1, 2, 0] rfl ?_
        exact b_X12_layMoves_38 hC hR hQ hr ih _ _ _ _ _ h
set_option maxHeartbeats 4000000 in
theorem b_X12_layMoves {X : Kx} {a : Ax} {N : Nat} {post : Sx → Prop} (hC : Cx X cX12_layMoves 6 RX12) (hR : X.R = { frames := 2, cells := 0, slots := 0, locals := 42 }) (hQ : X.Q = MQ X.below (Qv X.G a post) X.av X.s 0 0 (bs_ X.G)) (hr : X.meth.sig.returnType = none) (hn : X.meth.name = "layMoves") (s : Sx) (h : w_X12_layMoves N s post) : wk X a s 6 0 [(0, .ref (adr X.G a 6 0))] [] 0 0 := by
  unfold w_X12_layMoves at h
  refine k_iconst hC (pc := 0) (v := 1) dX12_layMoves_0 ic_1 ?_
  refine k_aload_n hC (pc := 1) dX12_layMoves_1 0 rfl ?_
  refine gf_X12_63 hC (pc := 2)  fl_RX12_317 dX12_layMoves_2 ?_
  refine k_ishl hC (pc := 5) dX12_layMoves_5 ?_
  refine k_iconst hC (pc := 6) (v := 1) dX12_layMoves_6 ic_1 ?_
  refine k_isub hC (pc := 7) dX12_layMoves_7 ?_
  refine k_topi (fun x_1 h_x_1 => ?_)
  have h := h x_1 h_x_1
  refine k_istore_n hC (pc := 8) dX12_layMoves_8 [(1, .int x_1), (0, .ref (adr X.G a 6 0))] (by decide) rfl ?_
  refine k_sub [(0, .ref (adr X.G a 6 0)), (1, .int x_1)] [1, 0] rfl ?_
  exact b_X12_layMoves_9 hC hR hQ hr N _ _ h
theorem ct_X12_layMoves {l : Launch} {G : Gx} {a : Ax} {s : Sx} {N : Nat} {post : Sx → Prop} (h : w_X12_layMoves N s post) : Met l yX12_layMoves (Cond.code yX12_layMoves cX12_layMoves 6 none :: gw) { frames := 2, cells := 0, slots := 0, locals := 42 } (va_Pc [.ref (adr G a 6 0)] (fun U => FU G a s U)) (Qv G a post) 0 0 (bs_ G) := met_of (plainFor_of_name (by decide)) (Nat.le_of_ble_eq_true rfl) rfl (fun X hC hl hR hQ hr hG hn => by subst hG; exact b_X12_layMoves hC hR hQ hr hn s h)
theorem ca_X12_layMoves : Ca yX12_layMoves cX12_layMoves 6 none 0 := ⟨cd_X12_layMoves, ii_RX12, by decide, by decide, by decide +kernel⟩
