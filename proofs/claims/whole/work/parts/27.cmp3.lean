def w_X11_week (N : Nat) (s : Sx) (post : Int32 → Sx → Prop) : Prop := w_X10_passWeek N s (fun r_2 s_1 => post r_2 s_1)
set_option maxHeartbeats 4000000 in
theorem b_X11_week {X : Kx} {a : Ax} {N : Nat} {post : Int32 → Sx → Prop} (hC : Cx X cX11_week 1 RX11) (hR : X.R = { frames := 3, cells := 0, slots := 0, locals := 71 }) (hQ : X.Q = MQ X.below (Qi X.G a post) X.av X.s 0 0 (bs_ X.G)) (hr : X.meth.sig.returnType = (some .int)) (hn : X.meth.name = "week") (s : Sx) (h : w_X11_week N s post) : wk X a s 1 0 [(0, .ref (adr X.G a 0 0))] [] 0 0 := by
  unfold w_X11_week at h
  refine k_aload_n hC (pc := 0) dX11_week_0 0 rfl ?_
  refine gf_X11_9 hC (pc := 1)  fl_RX11_44 dX11_week_1 ?_
  refine k_ci (rn_V hC (pc := 4) (As := []) (rest := []) ca_X10_passWeek ml_RX11_244 im_X10_passWeek se_X10_passWeek (fx_in f0_14) (ob0_14 _ _ _ _ _) rfl rfl (ct_X10_passWeek h) (by rw [hR]; exact ⟨rfl, rfl, by decide, by decide⟩) rfl (Nat.le_of_ble_eq_true rfl) dX11_week_4 ⟨by rw [hR]; decide, by rw [hR]; decide⟩) (fun r_2 s_1 h => ?_)
  exact k_iret hC (pc := 7) hQ hr dX11_week_7 h
theorem ct_X11_week {l : Launch} {G : Gx} {a : Ax} {s : Sx} {N : Nat} {post : Int32 → Sx → Prop} (h : w_X11_week N s post) : Met l yX11_week (Cond.code yX11_week cX11_week 1 (some .int) :: gw) { frames := 3, cells := 0, slots := 0, locals := 71 } (va_Pc [.ref (adr G a 0 0)] (fun U => FU G a s U)) (Qi G a post) 0 0 (bs_ G) := met_of (plainFor_of_name (by decide)) (Nat.le_of_ble_eq_true rfl) rfl (fun X hC hl hR hQ hr hG hn => by subst hG; exact b_X11_week hC hR hQ hr hn s h)
theorem ca_X11_week : Ca yX11_week cX11_week 1 (some .int) 0 := ⟨cd_X11_week, ii_RX11, by decide, by decide, by decide +kernel⟩
def w_X11_ofWork (N : Nat) (x1 : Int32) (x2 : Int32) (s : Sx) (post : Int32 → Sx → Prop) : Prop := w_X10_at N x1 s (fun o_2 s_1 => (o_2 = none → post ((-1)) s_1) ∧ (∀ j_3, o_2 = some j_3 → j_3 < s_1.2.2 4 ∧ w_X9_fact N j_3 x2 s_1 (fun r_5 s_4 => post r_5 s_4)))
set_option maxHeartbeats 4000000 in
theorem b_X11_ofWork {X : Kx} {a : Ax} {N : Nat} {post : Int32 → Sx → Prop} (hC : Cx X cX11_ofWork 4 RX11) (hR : X.R = { frames := 2, cells := 0, slots := 0, locals := 43 }) (hQ : X.Q = MQ X.below (Qi X.G a post) X.av X.s 0 0 (bs_ X.G)) (hr : X.meth.sig.returnType = (some .int)) (hn : X.meth.name = "ofWork") (s : Sx) (x1 : Int32) (x2 : Int32) (h : w_X11_ofWork N x1 x2 s post) : wk X a s 4 0 [(0, .ref (adr X.G a 0 0)), (1, .int x1), (2, .int x2)] [] 0 0 := by
  unfold w_X11_ofWork at h
  refine k_aload_n hC (pc := 0) dX11_ofWork_0 0 rfl ?_
  refine gf_X11_9 hC (pc := 1)  fl_RX11_44 dX11_ofWork_1 ?_
  refine k_iload_n hC (pc := 4) dX11_ofWork_4 1 rfl ?_
  refine k_cq (k := 3) (off := 0) (rn_V hC (pc := 5) (As := [.int x1]) (rest := []) ca_X10_at ml_RX11_225 im_X10_at se_X10_at (fx_in f0_14) (ob0_14 _ _ _ _ _) rfl rfl (ct_X10_at x1 h) (by rw [hR]; exact ⟨rfl, rfl, by decide, by decide⟩) rfl (Nat.le_of_ble_eq_true rfl) dX11_ofWork_5 ⟨by rw [hR]; decide, by rw [hR]; decide⟩) (fun s_1 h => ?_) (fun j_3 s_1 h => ?_)
  · have h := h.1 rfl
    refine k_astore_nN hC (pc := 8) dX11_ofWork_8 [(3, .null), (0, .ref (adr X.G a 0 0)), (1, .int x1), (2, .int x2)] (by decide) rfl ?_
    refine k_aload_nN hC (pc := 9) dX11_ofWork_9 0 rfl ?_
    refine k_ifnonnullN hC (pc := 10) dX11_ofWork_10 ?_
    refine k_iconst hC (pc := 13) (v := (-1)) dX11_ofWork_13 ic_m1 ?_
    refine k_goto hC (pc := 14) 22 dX11_ofWork_14 (by decide) ?_
    exact k_iret hC (pc := 22) hQ hr dX11_ofWork_22 h
  · have h := h.2 j_3 rfl
    refine k_eqz ?_
    refine k_astore_n hC (pc := 8) dX11_ofWork_8 [(3, .ref (adr X.G a 3 j_3)), (0, .ref (adr X.G a 0 0)), (1, .int x1), (2, .int x2)] (by decide) rfl ?_
    refine k_aload_n hC (pc := 9) dX11_ofWork_9 0 rfl ?_
    refine k_ifnonnull hC (pc := 10) 17 dX11_ofWork_10 (by decide) ?_
    refine k_aload_n hC (pc := 17) dX11_ofWork_17 0 rfl ?_
    refine k_iload_n hC (pc := 18) dX11_ofWork_18 3 rfl ?_
    refine k_ci (rn_V hC (pc := 19) (As := [.int x2]) (rest := []) ca_X9_fact ml_RX11_248 im_X9_fact se_X9_fact (wx_in h.1) (ob3 _ _ _ _ _ _) rfl rfl (ct_X9_fact j_3 x2 h.2) (by rw [hR]; exact ⟨rfl, rfl, by decide, by decide⟩) rfl (Nat.le_of_ble_eq_true rfl) dX11_ofWork_19 ⟨by rw [hR]; decide, by rw [hR]; decide⟩) (fun r_5 s_4 h => ?_)
    exact k_iret hC (pc := 22) hQ hr dX11_ofWork_22 h
theorem ct_X11_ofWork {l : Launch} {G : Gx} {a : Ax} {s : Sx} {N : Nat} {post : Int32 → Sx → Prop} (x1 : Int32) (x2 : Int32) (h : w_X11_ofWork N x1 x2 s post) : Met l yX11_ofWork (Cond.code yX11_ofWork cX11_ofWork 4 (some .int) :: gw) { frames := 2, cells := 0, slots := 0, locals := 43 } (va_Pc [.ref (adr G a 0 0), .int x1, .int x2] (fun U => FU G a s U)) (Qi G a post) 0 0 (bs_ G) := met_of (plainFor_of_name (by decide)) (Nat.le_of_ble_eq_true rfl) rfl (fun X hC hl hR hQ hr hG hn => by subst hG; exact b_X11_ofWork hC hR hQ hr hn s x1 x2 h)
theorem ca_X11_ofWork : Ca yX11_ofWork cX11_ofWork 4 (some .int) 2 := ⟨cd_X11_ofWork, ii_RX11, by decide, by decide, by decide +kernel⟩
def w_X11_level (N : Nat) (x1 : Int32) (x2 : Int32) (x3 : Int32) (s : Sx) (post : Int32 → Sx → Prop) : Prop := w_X11_isWithin N x1 0 4 s (fun r_2 s_1 => (r_2 = 0 → post ((-2)) s_1) ∧ (¬ (r_2 = 0) → w_X11_isWithin N x2 0 99 s_1 (fun r_5 s_4 => (r_5 = 0 → post ((-2)) s_4) ∧ (¬ (r_5 = 0) → w_X11_isWithin N x3 1 99 s_4 (fun r_8 s_7 => (¬ r_8 = 0 → w_X10_changeLevel N x1 x2 x3 s_7 (fun r_11 s_10 => (r_11 = 0 → post 0 s_10) ∧ (¬ (r_11 = 0) → post 1 s_10))) ∧ (¬ (¬ r_8 = 0) → post ((-2)) s_7))))))
set_option maxHeartbeats 4000000 in
theorem b_X11_level {X : Kx} {a : Ax} {N : Nat} {post : Int32 → Sx → Prop} (hC : Cx X cX11_level 4 RX11) (hR : X.R = { frames := 1, cells := 0, slots := 0, locals := 24 }) (hQ : X.Q = MQ X.below (Qi X.G a post) X.av X.s 0 0 (bs_ X.G)) (hr : X.meth.sig.returnType = (some .int)) (hn : X.meth.name = "level") (s : Sx) (x1 : Int32) (x2 : Int32) (x3 : Int32) (h : w_X11_level N x1 x2 x3 s post) : wk X a s 4 0 [(0, .ref (adr X.G a 0 0)), (1, .int x1), (2, .int x2), (3, .int x3)] [] 0 0 := by
  unfold w_X11_level at h
  refine k_iload_n hC (pc := 0) dX11_level_0 1 rfl ?_
  refine k_iconst hC (pc := 1) (v := 0) dX11_level_1 ic_0 ?_
  refine k_iconst hC (pc := 2) (v := 4) dX11_level_2 ic_4 ?_
  refine k_ci (rn_S hC (pc := 3) (As := [.int x1, .int 0, .int 4]) (rest := []) ca_X11_isWithin ml_RX11_80 sm_X11_isWithin (ct_X11_isWithin x1 0 4 h) (by rw [hR]; exact ⟨rfl, rfl, by decide, by decide⟩) rfl (Nat.le_of_ble_eq_true rfl) dX11_level_3 ⟨by rw [hR]; decide, by rw [hR]; decide⟩) (fun r_2 s_1 h => ?_)
  refine k_if_eq hC (pc := 6) 29 dX11_level_6 (by decide) (fun c_3 => ?_) (fun c_3 => ?_)
  · have h := h.1 c_3
    refine k_bipush hC (pc := 29) (v := (-2)) dX11_level_29 bp_m2 ?_
    exact k_iret hC (pc := 31) hQ hr dX11_level_31 h
  · have h := h.2 c_3
    refine k_iload_n hC (pc := 9) dX11_level_9 2 rfl ?_
    refine k_iconst hC (pc := 10) (v := 0) dX11_level_10 ic_0 ?_
    refine k_bipush hC (pc := 11) (v := 99) dX11_level_11 bp_99 ?_
    refine k_ci (rn_S hC (pc := 13) (As := [.int x2, .int 0, .int 99]) (rest := []) ca_X11_isWithin ml_RX11_80 sm_X11_isWithin (ct_X11_isWithin x2 0 99 h) (by rw [hR]; exact ⟨rfl, rfl, by decide, by decide⟩) rfl (Nat.le_of_ble_eq_true rfl) dX11_level_13 ⟨by rw [hR]; decide, by rw [hR]; decide⟩) (fun r_5 s_4 h => ?_)
    refine k_if_eq hC (pc := 16) 29 dX11_level_16 (by decide) (fun c_6 => ?_) (fun c_6 => ?_)
    · have h := h.1 c_6
      refine k_bipush hC (pc := 29) (v := (-2)) dX11_level_29 bp_m2 ?_
      exact k_iret hC (pc := 31) hQ hr dX11_level_31 h
    · have h := h.2 c_6
      refine k_iload_n hC (pc := 19) dX11_level_19 3 rfl ?_
      refine k_iconst hC (pc := 20) (v := 1) dX11_level_20 ic_1 ?_
      refine k_bipush hC (pc := 21) (v := 99) dX11_level_21 bp_99 ?_
      refine k_ci (rn_S hC (pc := 23) (As := [.int x3, .int 1, .int 99]) (rest := []) ca_X11_isWithin ml_RX11_80 sm_X11_isWithin (ct_X11_isWithin x3 1 99 h) (by rw [hR]; exact ⟨rfl, rfl, by decide, by decide⟩) rfl (Nat.le_of_ble_eq_true rfl) dX11_level_23 ⟨by rw [hR]; decide, by rw [hR]; decide⟩) (fun r_8 s_7 h => ?_)
      refine k_if_ne hC (pc := 26) 32 dX11_level_26 (by decide) (fun c_9 => ?_) (fun c_9 => ?_)
      · have h := h.1 c_9
        refine k_aload_n hC (pc := 32) dX11_level_32 0 rfl ?_
        refine gf_X11_9 hC (pc := 33)  fl_RX11_44 dX11_level_33 ?_
        refine k_iload_n hC (pc := 36) dX11_level_36 1 rfl ?_
        refine k_iload_n hC (pc := 37) dX11_level_37 2 rfl ?_
        refine k_iload_n hC (pc := 38) dX11_level_38 3 rfl ?_
        refine k_ci (rn_V hC (pc := 39) (As := [.int x1, .int x2, .int x3]) (rest := []) ca_X10_changeLevel ml_RX11_249 im_X10_changeLevel se_X10_changeLevel (fx_in f0_14) (ob0_14 _ _ _ _ _) rfl rfl (ct_X10_changeLevel x1 x2 x3 h) (by rw [hR]; exact ⟨rfl, rfl, by decide, by decide⟩) rfl (Nat.le_of_ble_eq_true rfl) dX11_level_39 ⟨by rw [hR]; decide, by rw [hR]; decide⟩) (fun r_11 s_10 h => ?_)
        refine k_if_eq hC (pc := 42) 49 dX11_level_42 (by decide) (fun c_12 => ?_) (fun c_12 => ?_)
        · have h := h.1 c_12
          refine k_iconst hC (pc := 49) (v := 0) dX11_level_49 ic_0 ?_
          exact k_iret hC (pc := 50) hQ hr dX11_level_50 h
        · have h := h.2 c_12
          refine k_iconst hC (pc := 45) (v := 1) dX11_level_45 ic_1 ?_
          refine k_goto hC (pc := 46) 50 dX11_level_46 (by decide) ?_
          exact k_iret hC (pc := 50) hQ hr dX11_level_50 h
      · have h := h.2 c_9
        refine k_bipush hC (pc := 29) (v := (-2)) dX11_level_29 bp_m2 ?_
        exact k_iret hC (pc := 31) hQ hr dX11_level_31 h
theorem ct_X11_level {l : Launch} {G : Gx} {a : Ax} {s : Sx} {N : Nat} {post : Int32 → Sx → Prop} (x1 : Int32) (x2 : Int32) (x3 : Int32) (h : w_X11_level N x1 x2 x3 s post) : Met l yX11_level (Cond.code yX11_level cX11_level 4 (some .int) :: gw) { frames := 1, cells := 0, slots := 0, locals := 24 } (va_Pc [.ref (adr G a 0 0), .int x1, .int x2, .int x3] (fun U => FU G a s U)) (Qi G a post) 0 0 (bs_ G) := met_of (plainFor_of_name (by decide)) (Nat.le_of_ble_eq_true rfl) rfl (fun X hC hl hR hQ hr hG hn => by subst hG; exact b_X11_level hC hR hQ hr hn s x1 x2 x3 h)
theorem ca_X11_level : Ca yX11_level cX11_level 4 (some .int) 3 := ⟨cd_X11_level, ii_RX11, by decide, by decide, by decide +kernel⟩
def w_X11_told (N : Nat) (x1 : Int32) (x2 : Int32) (s : Sx) (post : Int64 → Sx → Prop) : Prop := w_X10_at N x1 s (fun o_2 s_1 => (o_2 = none → post ((-9223372036854775808)) s_1) ∧ (∀ j_3, o_2 = some j_3 → w_X11_isWithin N x2 ((-1)) 4 s_1 (fun r_5 s_4 => (¬ r_5 = 0 → w_X10_toldBehind N j_3 x2 s_4 (fun r_8 s_7 => post r_8 s_7)) ∧ (¬ (¬ r_5 = 0) → post ((-9223372036854775808)) s_4))))
set_option maxHeartbeats 4000000 in
theorem b_X11_told {X : Kx} {a : Ax} {N : Nat} {post : Int64 → Sx → Prop} (hC : Cx X cX11_told 4 RX11) (hR : X.R = { frames := 3, cells := 0, slots := 0, locals := 71 }) (hQ : X.Q = MQ X.below (Ql X.G a post) X.av X.s 0 0 (bs_ X.G)) (hr : X.meth.sig.returnType = (some .long)) (hn : X.meth.name = "told") (s : Sx) (x1 : Int32) (x2 : Int32) (h : w_X11_told N x1 x2 s post) : wk X a s 4 0 [(0, .ref (adr X.G a 0 0)), (1, .int x1), (2, .int x2)] [] 0 0 := by
  unfold w_X11_told at h
  refine k_aload_n hC (pc := 0) dX11_told_0 0 rfl ?_
  refine gf_X11_9 hC (pc := 1)  fl_RX11_44 dX11_told_1 ?_
  refine k_iload_n hC (pc := 4) dX11_told_4 1 rfl ?_
  refine k_cq (k := 3) (off := 0) (rn_V hC (pc := 5) (As := [.int x1]) (rest := []) ca_X10_at ml_RX11_225 im_X10_at se_X10_at (fx_in f0_14) (ob0_14 _ _ _ _ _) rfl rfl (ct_X10_at x1 h) (by rw [hR]; exact ⟨rfl, rfl, by decide, by decide⟩) rfl (Nat.le_of_ble_eq_true rfl) dX11_told_5 ⟨by rw [hR]; decide, by rw [hR]; decide⟩) (fun s_1 h => ?_) (fun j_3 s_1 h => ?_)
  · have h := h.1 rfl
    refine k_astore_nN hC (pc := 8) dX11_told_8 [(3, .null), (0, .ref (adr X.G a 0 0)), (1, .int x1), (2, .int x2)] (by decide) rfl ?_
    refine k_aload_nN hC (pc := 9) dX11_told_9 0 rfl ?_
    refine k_ifnullN hC (pc := 10) 22 dX11_told_10 (by decide) ?_
    refine k_ldc2 hC (pc := 22) dX11_told_22 cn_RX11_252 ?_
    exact k_lret hC (pc := 25) hQ hr dX11_told_25 h
  · have h := h.2 j_3 rfl
    refine k_eqz ?_
    refine k_astore_n hC (pc := 8) dX11_told_8 [(3, .ref (adr X.G a 3 j_3)), (0, .ref (adr X.G a 0 0)), (1, .int x1), (2, .int x2)] (by decide) rfl ?_
    refine k_aload_n hC (pc := 9) dX11_told_9 0 rfl ?_
    refine k_ifnull hC (pc := 10) dX11_told_10 ?_
    refine k_iload_n hC (pc := 13) dX11_told_13 3 rfl ?_
    refine k_iconst hC (pc := 14) (v := (-1)) dX11_told_14 ic_m1 ?_
    refine k_iconst hC (pc := 15) (v := 4) dX11_told_15 ic_4 ?_
    refine k_ci (rn_S hC (pc := 16) (As := [.int x2, .int ((-1)), .int 4]) (rest := []) ca_X11_isWithin ml_RX11_80 sm_X11_isWithin (ct_X11_isWithin x2 ((-1)) 4 h) (by rw [hR]; exact ⟨rfl, rfl, by decide, by decide⟩) rfl (Nat.le_of_ble_eq_true rfl) dX11_told_16 ⟨by rw [hR]; decide, by rw [hR]; decide⟩) (fun r_5 s_4 h => ?_)
    refine k_if_ne hC (pc := 19) 26 dX11_told_19 (by decide) (fun c_6 => ?_) (fun c_6 => ?_)
    · have h := h.1 c_6
      refine k_aload_n hC (pc := 26) dX11_told_26 1 rfl ?_
      refine gf_X11_9 hC (pc := 27)  fl_RX11_44 dX11_told_27 ?_
      refine k_aload_n hC (pc := 30) dX11_told_30 0 rfl ?_
      refine k_iload_n hC (pc := 31) dX11_told_31 3 rfl ?_
      refine k_cl (rn_V hC (pc := 32) (As := [.ref (adr X.G a 3 j_3), .int x2]) (rest := []) ca_X10_toldBehind ml_RX11_254 im_X10_toldBehind se_X10_toldBehind (fx_in f0_14) (ob0_14 _ _ _ _ _) rfl rfl (ct_X10_toldBehind j_3 x2 h) (by rw [hR]; exact ⟨rfl, rfl, by decide, by decide⟩) rfl (Nat.le_of_ble_eq_true rfl) dX11_told_32 ⟨by rw [hR]; decide, by rw [hR]; decide⟩) (fun r_8 s_7 h => ?_)
      exact k_lret hC (pc := 35) hQ hr dX11_told_35 h
    · have h := h.2 c_6
      refine k_ldc2 hC (pc := 22) dX11_told_22 cn_RX11_252 ?_
      exact k_lret hC (pc := 25) hQ hr dX11_told_25 h
theorem ct_X11_told {l : Launch} {G : Gx} {a : Ax} {s : Sx} {N : Nat} {post : Int64 → Sx → Prop} (x1 : Int32) (x2 : Int32) (h : w_X11_told N x1 x2 s post) : Met l yX11_told (Cond.code yX11_told cX11_told 4 (some .long) :: gw) { frames := 3, cells := 0, slots := 0, locals := 71 } (va_Pc [.ref (adr G a 0 0), .int x1, .int x2] (fun U => FU G a s U)) (Ql G a post) 0 0 (bs_ G) := met_of (plainFor_of_name (by decide)) (Nat.le_of_ble_eq_true rfl) rfl (fun X hC hl hR hQ hr hG hn => by subst hG; exact b_X11_told hC hR hQ hr hn s x1 x2 h)
theorem ca_X11_told : Ca yX11_told cX11_told 4 (some .long) 2 := ⟨cd_X11_told, ii_RX11, by decide, by decide, by decide +kernel⟩
def w_X11_grew (N : Nat) (x1 : Int32) (s : Sx) (post : Int32 → Sx → Prop) : Prop := w_X10_at N x1 s (fun o_2 s_1 => (o_2 = none → post ((-1)) s_1) ∧ (∀ j_3, o_2 = some j_3 → w_X10_greatestGrowth N j_3 s_1 (fun r_5 s_4 => post r_5 s_4)))
set_option maxHeartbeats 4000000 in
theorem b_X11_grew {X : Kx} {a : Ax} {N : Nat} {post : Int32 → Sx → Prop} (hC : Cx X cX11_grew 3 RX11) (hR : X.R = { frames := 3, cells := 0, slots := 0, locals := 75 }) (hQ : X.Q = MQ X.below (Qi X.G a post) X.av X.s 0 0 (bs_ X.G)) (hr : X.meth.sig.returnType = (some .int)) (hn : X.meth.name = "grew") (s : Sx) (x1 : Int32) (h : w_X11_grew N x1 s post) : wk X a s 3 0 [(0, .ref (adr X.G a 0 0)), (1, .int x1)] [] 0 0 := by
  unfold w_X11_grew at h
  refine k_aload_n hC (pc := 0) dX11_grew_0 0 rfl ?_
  refine gf_X11_9 hC (pc := 1)  fl_RX11_44 dX11_grew_1 ?_
  refine k_iload_n hC (pc := 4) dX11_grew_4 1 rfl ?_
  refine k_cq (k := 3) (off := 0) (rn_V hC (pc := 5) (As := [.int x1]) (rest := []) ca_X10_at ml_RX11_225 im_X10_at se_X10_at (fx_in f0_14) (ob0_14 _ _ _ _ _) rfl rfl (ct_X10_at x1 h) (by rw [hR]; exact ⟨rfl, rfl, by decide, by decide⟩) rfl (Nat.le_of_ble_eq_true rfl) dX11_grew_5 ⟨by rw [hR]; decide, by rw [hR]; decide⟩) (fun s_1 h => ?_) (fun j_3 s_1 h => ?_)
  · have h := h.1 rfl
    refine k_astore_nN hC (pc := 8) dX11_grew_8 [(2, .null), (0, .ref (adr X.G a 0 0)), (1, .int x1)] (by decide) rfl ?_
    refine k_aload_nN hC (pc := 9) dX11_grew_9 0 rfl ?_
    refine k_ifnonnullN hC (pc := 10) dX11_grew_10 ?_
    refine k_iconst hC (pc := 13) (v := (-1)) dX11_grew_13 ic_m1 ?_
    refine k_goto hC (pc := 14) 25 dX11_grew_14 (by decide) ?_
    exact k_iret hC (pc := 25) hQ hr dX11_grew_25 h
  · have h := h.2 j_3 rfl
    refine k_eqz ?_
    refine k_astore_n hC (pc := 8) dX11_grew_8 [(2, .ref (adr X.G a 3 j_3)), (0, .ref (adr X.G a 0 0)), (1, .int x1)] (by decide) rfl ?_
    refine k_aload_n hC (pc := 9) dX11_grew_9 0 rfl ?_
    refine k_ifnonnull hC (pc := 10) 17 dX11_grew_10 (by decide) ?_
    refine k_aload_n hC (pc := 17) dX11_grew_17 1 rfl ?_
    refine gf_X11_9 hC (pc := 18)  fl_RX11_44 dX11_grew_18 ?_
    refine k_aload_n hC (pc := 21) dX11_grew_21 0 rfl ?_
    refine k_ci (rn_V hC (pc := 22) (As := [.ref (adr X.G a 3 j_3)]) (rest := []) ca_X10_greatestGrowth ml_RX11_258 im_X10_greatestGrowth se_X10_greatestGrowth (fx_in f0_14) (ob0_14 _ _ _ _ _) rfl rfl (ct_X10_greatestGrowth j_3 h) (by rw [hR]; exact ⟨rfl, rfl, by decide, by decide⟩) rfl (Nat.le_of_ble_eq_true rfl) dX11_grew_22 ⟨by rw [hR]; decide, by rw [hR]; decide⟩) (fun r_5 s_4 h => ?_)
    exact k_iret hC (pc := 25) hQ hr dX11_grew_25 h
theorem ct_X11_grew {l : Launch} {G : Gx} {a : Ax} {s : Sx} {N : Nat} {post : Int32 → Sx → Prop} (x1 : Int32) (h : w_X11_grew N x1 s post) : Met l yX11_grew (Cond.code yX11_grew cX11_grew 3 (some .int) :: gw) { frames := 3, cells := 0, slots := 0, locals := 75 } (va_Pc [.ref (adr G a 0 0), .int x1] (fun U => FU G a s U)) (Qi G a post) 0 0 (bs_ G) := met_of (plainFor_of_name (by decide)) (Nat.le_of_ble_eq_true rfl) rfl (fun X hC hl hR hQ hr hG hn => by subst hG; exact b_X11_grew hC hR hQ hr hn s x1 h)
theorem ca_X11_grew : Ca yX11_grew cX11_grew 3 (some .int) 1 := ⟨cd_X11_grew, ii_RX11, by decide, by decide, by decide +kernel⟩
def w_X11_stand (N : Nat) (x1 : Int32) (x2 : Int32) (x3 : Int32) (x4 : Int32) (s : Sx) (post : Int32 → Sx → Prop) : Prop := w_X11_isWithin N x1 0 3 s (fun r_2 s_1 => (r_2 = 0 → post ((-2)) s_1) ∧ (¬ (r_2 = 0) → w_X11_isWithin N x2 0 2 s_1 (fun r_5 s_4 => (r_5 = 0 → post ((-2)) s_4) ∧ (¬ (r_5 = 0) → w_X11_isWithin N x3 1 99999 s_4 (fun r_8 s_7 => (r_8 = 0 → post ((-2)) s_7) ∧ (¬ (r_8 = 0) → w_X11_isWithin N x4 0 60 s_7 (fun r_11 s_10 => (¬ r_11 = 0 → w_X8_add N x1 x2 x3 x4 s_10 (fun r_14 s_13 => post r_14 s_13)) ∧ (¬ (¬ r_11 = 0) → post ((-2)) s_10))))))))
set_option maxHeartbeats 4000000 in
theorem b_X11_stand {X : Kx} {a : Ax} {N : Nat} {post : Int32 → Sx → Prop} (hC : Cx X cX11_stand 5 RX11) (hR : X.R = { frames := 1, cells := 0, slots := 0, locals := 24 }) (hQ : X.Q = MQ X.below (Qi X.G a post) X.av X.s 0 0 (bs_ X.G)) (hr : X.meth.sig.returnType = (some .int)) (hn : X.meth.name = "stand") (s : Sx) (x1 : Int32) (x2 : Int32) (x3 : Int32) (x4 : Int32) (h : w_X11_stand N x1 x2 x3 x4 s post) : wk X a s 5 0 [(0, .ref (adr X.G a 0 0)), (1, .int x1), (2, .int x2), (3, .int x3), (4, .int x4)] [] 0 0 := by
  unfold w_X11_stand at h
  refine k_iload_n hC (pc := 0) dX11_stand_0 1 rfl ?_
  refine k_iconst hC (pc := 1) (v := 0) dX11_stand_1 ic_0 ?_
  refine k_iconst hC (pc := 2) (v := 3) dX11_stand_2 ic_3 ?_
  refine k_ci (rn_S hC (pc := 3) (As := [.int x1, .int 0, .int 3]) (rest := []) ca_X11_isWithin ml_RX11_80 sm_X11_isWithin (ct_X11_isWithin x1 0 3 h) (by rw [hR]; exact ⟨rfl, rfl, by decide, by decide⟩) rfl (Nat.le_of_ble_eq_true rfl) dX11_stand_3 ⟨by rw [hR]; decide, by rw [hR]; decide⟩) (fun r_2 s_1 h => ?_)
  refine k_if_eq hC (pc := 6) 40 dX11_stand_6 (by decide) (fun c_3 => ?_) (fun c_3 => ?_)
  · have h := h.1 c_3
    refine k_bipush hC (pc := 40) (v := (-2)) dX11_stand_40 bp_m2 ?_
    exact k_iret hC (pc := 42) hQ hr dX11_stand_42 h
  · have h := h.2 c_3
    refine k_iload_n hC (pc := 9) dX11_stand_9 2 rfl ?_
    refine k_iconst hC (pc := 10) (v := 0) dX11_stand_10 ic_0 ?_
    refine k_iconst hC (pc := 11) (v := 2) dX11_stand_11 ic_2 ?_
    refine k_ci (rn_S hC (pc := 12) (As := [.int x2, .int 0, .int 2]) (rest := []) ca_X11_isWithin ml_RX11_80 sm_X11_isWithin (ct_X11_isWithin x2 0 2 h) (by rw [hR]; exact ⟨rfl, rfl, by decide, by decide⟩) rfl (Nat.le_of_ble_eq_true rfl) dX11_stand_12 ⟨by rw [hR]; decide, by rw [hR]; decide⟩) (fun r_5 s_4 h => ?_)
    refine k_if_eq hC (pc := 15) 40 dX11_stand_15 (by decide) (fun c_6 => ?_) (fun c_6 => ?_)
    · have h := h.1 c_6
      refine k_bipush hC (pc := 40) (v := (-2)) dX11_stand_40 bp_m2 ?_
      exact k_iret hC (pc := 42) hQ hr dX11_stand_42 h
    · have h := h.2 c_6
      refine k_iload_n hC (pc := 18) dX11_stand_18 3 rfl ?_
      refine k_iconst hC (pc := 19) (v := 1) dX11_stand_19 ic_1 ?_
      refine k_ldcw hC (pc := 20) dX11_stand_20 cn_RX11_262 ?_
      refine k_ci (rn_S hC (pc := 23) (As := [.int x3, .int 1, .int 99999]) (rest := []) ca_X11_isWithin ml_RX11_80 sm_X11_isWithin (ct_X11_isWithin x3 1 99999 h) (by rw [hR]; exact ⟨rfl, rfl, by decide, by decide⟩) rfl (Nat.le_of_ble_eq_true rfl) dX11_stand_23 ⟨by rw [hR]; decide, by rw [hR]; decide⟩) (fun r_8 s_7 h => ?_)
      refine k_if_eq hC (pc := 26) 40 dX11_stand_26 (by decide) (fun c_9 => ?_) (fun c_9 => ?_)
      · have h := h.1 c_9
        refine k_bipush hC (pc := 40) (v := (-2)) dX11_stand_40 bp_m2 ?_
        exact k_iret hC (pc := 42) hQ hr dX11_stand_42 h
      · have h := h.2 c_9
        refine k_iload hC (pc := 29) dX11_stand_29 4 rfl ?_
        refine k_iconst hC (pc := 31) (v := 0) dX11_stand_31 ic_0 ?_
        refine k_bipush hC (pc := 32) (v := 60) dX11_stand_32 bp_60 ?_
        refine k_ci (rn_S hC (pc := 34) (As := [.int x4, .int 0, .int 60]) (rest := []) ca_X11_isWithin ml_RX11_80 sm_X11_isWithin (ct_X11_isWithin x4 0 60 h) (by rw [hR]; exact ⟨rfl, rfl, by decide, by decide⟩) rfl (Nat.le_of_ble_eq_true rfl) dX11_stand_34 ⟨by rw [hR]; decide, by rw [hR]; decide⟩) (fun r_11 s_10 h => ?_)
        refine k_if_ne hC (pc := 37) 43 dX11_stand_37 (by decide) (fun c_12 => ?_) (fun c_12 => ?_)
        · have h := h.1 c_12
          refine k_aload_n hC (pc := 43) dX11_stand_43 0 rfl ?_
          refine gf_X11_10 hC (pc := 44)  fl_RX11_51 dX11_stand_44 ?_
          refine k_iload_n hC (pc := 47) dX11_stand_47 1 rfl ?_
          refine k_iload_n hC (pc := 48) dX11_stand_48 2 rfl ?_
          refine k_iload_n hC (pc := 49) dX11_stand_49 3 rfl ?_
          refine k_iload hC (pc := 50) dX11_stand_50 4 rfl ?_
          refine k_ci (rn_V hC (pc := 52) (As := [.int x1, .int x2, .int x3, .int x4]) (rest := []) ca_X8_add ml_RX11_263 im_X8_add se_X8_add (fx_in f0_19) (ob0_19 _ _ _ _ _) rfl rfl (ct_X8_add x1 x2 x3 x4 h) (by rw [hR]; exact ⟨rfl, rfl, by decide, by decide⟩) rfl (Nat.le_of_ble_eq_true rfl) dX11_stand_52 ⟨by rw [hR]; decide, by rw [hR]; decide⟩) (fun r_14 s_13 h => ?_)
          exact k_iret hC (pc := 55) hQ hr dX11_stand_55 h
        · have h := h.2 c_12
          refine k_bipush hC (pc := 40) (v := (-2)) dX11_stand_40 bp_m2 ?_
          exact k_iret hC (pc := 42) hQ hr dX11_stand_42 h
theorem ct_X11_stand {l : Launch} {G : Gx} {a : Ax} {s : Sx} {N : Nat} {post : Int32 → Sx → Prop} (x1 : Int32) (x2 : Int32) (x3 : Int32) (x4 : Int32) (h : w_X11_stand N x1 x2 x3 x4 s post) : Met l yX11_stand (Cond.code yX11_stand cX11_stand 5 (some .int) :: gw) { frames := 1, cells := 0, slots := 0, locals := 24 } (va_Pc [.ref (adr G a 0 0), .int x1, .int x2, .int x3, .int x4] (fun U => FU G a s U)) (Qi G a post) 0 0 (bs_ G) := met_of (plainFor_of_name (by decide)) (Nat.le_of_ble_eq_true rfl) rfl (fun X hC hl hR hQ hr hG hn => by subst hG; exact b_X11_stand hC hR hQ hr hn s x1 x2 x3 x4 h)
theorem ca_X11_stand : Ca yX11_stand cX11_stand 5 (some .int) 4 := ⟨cd_X11_stand, ii_RX11, by decide, by decide, by decide +kernel⟩
def w_X11_isYear (N : Nat) (x0 : Int32) (s : Sx) (post : Int32 → Sx → Prop) : Prop := w_X11_isWithin N x0 0 99 s (fun r_2 s_1 => (r_2 = 0 ∨ r_2 = 1) ∧ post r_2 s_1)
set_option maxHeartbeats 4000000 in
theorem b_X11_isYear {X : Kx} {a : Ax} {N : Nat} {post : Int32 → Sx → Prop} (hC : Cx X cX11_isYear 1 RX11) (hR : X.R = { frames := 1, cells := 0, slots := 0, locals := 22 }) (hQ : X.Q = MQ X.below (Qi X.G a post) X.av X.s 0 0 (bs_ X.G)) (hr : X.meth.sig.returnType = (some .boolean)) (hn : X.meth.name = "isYear") (s : Sx) (x0 : Int32) (h : w_X11_isYear N x0 s post) : wk X a s 1 0 [(0, .int x0)] [] 0 0 := by
  unfold w_X11_isYear at h
  refine k_iload_n hC (pc := 0) dX11_isYear_0 0 rfl ?_
  refine k_iconst hC (pc := 1) (v := 0) dX11_isYear_1 ic_0 ?_
  refine k_bipush hC (pc := 2) (v := 99) dX11_isYear_2 bp_99 ?_
  refine k_ci (rn_S hC (pc := 4) (As := [.int x0, .int 0, .int 99]) (rest := []) ca_X11_isWithin ml_RX11_80 sm_X11_isWithin (ct_X11_isWithin x0 0 99 h) (by rw [hR]; exact ⟨rfl, rfl, by decide, by decide⟩) rfl (Nat.le_of_ble_eq_true rfl) dX11_isYear_4 ⟨by rw [hR]; decide, by rw [hR]; decide⟩) (fun r_2 s_1 h => ?_)
  obtain ⟨c_3, h⟩ := h
  exact k_zret hC (pc := 7) hQ hr dX11_isYear_7 c_3 h
theorem ct_X11_isYear {l : Launch} {G : Gx} {a : Ax} {s : Sx} {N : Nat} {post : Int32 → Sx → Prop} (x0 : Int32) (h : w_X11_isYear N x0 s post) : Met l yX11_isYear (Cond.code yX11_isYear cX11_isYear 1 (some .boolean) :: gw) { frames := 1, cells := 0, slots := 0, locals := 22 } (va_Pc [.int x0] (fun U => FU G a s U)) (Qi G a post) 0 0 (bs_ G) := met_of (plainFor_of_name (by decide)) (Nat.le_of_ble_eq_true rfl) rfl (fun X hC hl hR hQ hr hG hn => by subst hG; exact b_X11_isYear hC hR hQ hr hn s x0 h)
theorem ca_X11_isYear : Ca yX11_isYear cX11_isYear 1 (some .boolean) 1 := ⟨cd_X11_isYear, ii_RX11, by decide, by decide, by decide +kernel⟩
def w_X11_live (N : Nat) (x1 : Int32) (x2 : Int32) (s : Sx) (post : Int32 → Sx → Prop) : Prop := w_X8_has N x1 s (fun r_2 s_1 => (¬ r_2 = 0 → w_X11_isYear N x2 s_1 (fun r_5 s_4 => (r_5 = 0 → post ((-2)) s_4) ∧ (¬ (r_5 = 0) → w_X8_liveIn N x1 x2 s_4 (fun r_8 s_7 => post r_8 s_7)))) ∧ (¬ (¬ r_2 = 0) → post ((-1)) s_1))
set_option maxHeartbeats 4000000 in
theorem b_X11_live {X : Kx} {a : Ax} {N : Nat} {post : Int32 → Sx → Prop} (hC : Cx X cX11_live 3 RX11) (hR : X.R = { frames := 2, cells := 0, slots := 0, locals := 43 }) (hQ : X.Q = MQ X.below (Qi X.G a post) X.av X.s 0 0 (bs_ X.G)) (hr : X.meth.sig.returnType = (some .int)) (hn : X.meth.name = "live") (s : Sx) (x1 : Int32) (x2 : Int32) (h : w_X11_live N x1 x2 s post) : wk X a s 3 0 [(0, .ref (adr X.G a 0 0)), (1, .int x1), (2, .int x2)] [] 0 0 := by
  unfold w_X11_live at h
  refine k_aload_n hC (pc := 0) dX11_live_0 0 rfl ?_
  refine gf_X11_10 hC (pc := 1)  fl_RX11_51 dX11_live_1 ?_
  refine k_iload_n hC (pc := 4) dX11_live_4 1 rfl ?_
  refine k_ci (rn_V hC (pc := 5) (As := [.int x1]) (rest := []) ca_X8_has ml_RX11_265 im_X8_has se_X8_has (fx_in f0_19) (ob0_19 _ _ _ _ _) rfl rfl (ct_X8_has x1 h) (by rw [hR]; exact ⟨rfl, rfl, by decide, by decide⟩) rfl (Nat.le_of_ble_eq_true rfl) dX11_live_5 ⟨by rw [hR]; decide, by rw [hR]; decide⟩) (fun r_2 s_1 h => ?_)
  refine k_if_ne hC (pc := 8) 13 dX11_live_8 (by decide) (fun c_3 => ?_) (fun c_3 => ?_)
  · have h := h.1 c_3
    refine k_iload_n hC (pc := 13) dX11_live_13 2 rfl ?_
    refine k_ci (rn_S hC (pc := 14) (As := [.int x2]) (rest := []) ca_X11_isYear ml_RX11_266 sm_X11_isYear (ct_X11_isYear x2 h) (by rw [hR]; exact ⟨rfl, rfl, by decide, by decide⟩) rfl (Nat.le_of_ble_eq_true rfl) dX11_live_14 ⟨by rw [hR]; decide, by rw [hR]; decide⟩) (fun r_5 s_4 h => ?_)
    refine k_if_eq hC (pc := 17) 32 dX11_live_17 (by decide) (fun c_6 => ?_) (fun c_6 => ?_)
    · have h := h.1 c_6
      refine k_bipush hC (pc := 32) (v := (-2)) dX11_live_32 bp_m2 ?_
      exact k_iret hC (pc := 34) hQ hr dX11_live_34 h
    · have h := h.2 c_6
      refine k_aload_n hC (pc := 20) dX11_live_20 0 rfl ?_
      refine gf_X11_10 hC (pc := 21)  fl_RX11_51 dX11_live_21 ?_
      refine k_iload_n hC (pc := 24) dX11_live_24 1 rfl ?_
      refine k_iload_n hC (pc := 25) dX11_live_25 2 rfl ?_
      refine k_ci (rn_V hC (pc := 26) (As := [.int x1, .int x2]) (rest := []) ca_X8_liveIn ml_RX11_269 im_X8_liveIn se_X8_liveIn (fx_in f0_19) (ob0_19 _ _ _ _ _) rfl rfl (ct_X8_liveIn x1 x2 h) (by rw [hR]; exact ⟨rfl, rfl, by decide, by decide⟩) rfl (Nat.le_of_ble_eq_true rfl) dX11_live_26 ⟨by rw [hR]; decide, by rw [hR]; decide⟩) (fun r_8 s_7 h => ?_)
      refine k_goto hC (pc := 29) 34 dX11_live_29 (by decide) ?_
      exact k_iret hC (pc := 34) hQ hr dX11_live_34 h
  · have h := h.2 c_3
    refine k_iconst hC (pc := 11) (v := (-1)) dX11_live_11 ic_m1 ?_
    exact k_iret hC (pc := 12) hQ hr dX11_live_12 h
theorem ct_X11_live {l : Launch} {G : Gx} {a : Ax} {s : Sx} {N : Nat} {post : Int32 → Sx → Prop} (x1 : Int32) (x2 : Int32) (h : w_X11_live N x1 x2 s post) : Met l yX11_live (Cond.code yX11_live cX11_live 3 (some .int) :: gw) { frames := 2, cells := 0, slots := 0, locals := 43 } (va_Pc [.ref (adr G a 0 0), .int x1, .int x2] (fun U => FU G a s U)) (Qi G a post) 0 0 (bs_ G) := met_of (plainFor_of_name (by decide)) (Nat.le_of_ble_eq_true rfl) rfl (fun X hC hl hR hQ hr hG hn => by subst hG; exact b_X11_live hC hR hQ hr hn s x1 x2 h)
theorem ca_X11_live : Ca yX11_live cX11_live 3 (some .int) 2 := ⟨cd_X11_live, ii_RX11, by decide, by decide, by decide +kernel⟩
def w_X11_forest (N : Nat) (x1 : Int32) (x2 : Int32) (s : Sx) (post : Int64 → Sx → Prop) : Prop := w_X11_isWithin N x1 0 4 s (fun r_2 s_1 => (r_2 = 0 → post ((-9223372036854775808)) s_1) ∧ (¬ (r_2 = 0) → w_X11_isYear N x2 s_1 (fun r_5 s_4 => (¬ r_5 = 0 → w_X8_liveOfKind N x1 x2 s_4 (fun r_8 s_7 => post r_8 s_7)) ∧ (¬ (¬ r_5 = 0) → post ((-9223372036854775808)) s_4))))
set_option maxHeartbeats 4000000 in
theorem b_X11_forest {X : Kx} {a : Ax} {N : Nat} {post : Int64 → Sx → Prop} (hC : Cx X cX11_forest 3 RX11) (hR : X.R = { frames := 2, cells := 0, slots := 0, locals := 50 }) (hQ : X.Q = MQ X.below (Ql X.G a post) X.av X.s 0 0 (bs_ X.G)) (hr : X.meth.sig.returnType = (some .long)) (hn : X.meth.name = "forest") (s : Sx) (x1 : Int32) (x2 : Int32) (h : w_X11_forest N x1 x2 s post) : wk X a s 3 0 [(0, .ref (adr X.G a 0 0)), (1, .int x1), (2, .int x2)] [] 0 0 := by
  unfold w_X11_forest at h
  refine k_iload_n hC (pc := 0) dX11_forest_0 1 rfl ?_
  refine k_iconst hC (pc := 1) (v := 0) dX11_forest_1 ic_0 ?_
  refine k_iconst hC (pc := 2) (v := 4) dX11_forest_2 ic_4 ?_
  refine k_ci (rn_S hC (pc := 3) (As := [.int x1, .int 0, .int 4]) (rest := []) ca_X11_isWithin ml_RX11_80 sm_X11_isWithin (ct_X11_isWithin x1 0 4 h) (by rw [hR]; exact ⟨rfl, rfl, by decide, by decide⟩) rfl (Nat.le_of_ble_eq_true rfl) dX11_forest_3 ⟨by rw [hR]; decide, by rw [hR]; decide⟩) (fun r_2 s_1 h => ?_)
  refine k_if_eq hC (pc := 6) 16 dX11_forest_6 (by decide) (fun c_3 => ?_) (fun c_3 => ?_)
  · have h := h.1 c_3
    refine k_ldc2 hC (pc := 16) dX11_forest_16 cn_RX11_252 ?_
    exact k_lret hC (pc := 19) hQ hr dX11_forest_19 h
  · have h := h.2 c_3
    refine k_iload_n hC (pc := 9) dX11_forest_9 2 rfl ?_
    refine k_ci (rn_S hC (pc := 10) (As := [.int x2]) (rest := []) ca_X11_isYear ml_RX11_266 sm_X11_isYear (ct_X11_isYear x2 h) (by rw [hR]; exact ⟨rfl, rfl, by decide, by decide⟩) rfl (Nat.le_of_ble_eq_true rfl) dX11_forest_10 ⟨by rw [hR]; decide, by rw [hR]; decide⟩) (fun r_5 s_4 h => ?_)
    refine k_if_ne hC (pc := 13) 20 dX11_forest_13 (by decide) (fun c_6 => ?_) (fun c_6 => ?_)
    · have h := h.1 c_6
      refine k_aload_n hC (pc := 20) dX11_forest_20 0 rfl ?_
      refine gf_X11_10 hC (pc := 21)  fl_RX11_51 dX11_forest_21 ?_
      refine k_iload_n hC (pc := 24) dX11_forest_24 1 rfl ?_
      refine k_iload_n hC (pc := 25) dX11_forest_25 2 rfl ?_
      refine k_cl (rn_V hC (pc := 26) (As := [.int x1, .int x2]) (rest := []) ca_X8_liveOfKind ml_RX11_272 im_X8_liveOfKind se_X8_liveOfKind (fx_in f0_19) (ob0_19 _ _ _ _ _) rfl rfl (ct_X8_liveOfKind x1 x2 h) (by rw [hR]; exact ⟨rfl, rfl, by decide, by decide⟩) rfl (Nat.le_of_ble_eq_true rfl) dX11_forest_26 ⟨by rw [hR]; decide, by rw [hR]; decide⟩) (fun r_8 s_7 h => ?_)
      exact k_lret hC (pc := 29) hQ hr dX11_forest_29 h
    · have h := h.2 c_6
      refine k_ldc2 hC (pc := 16) dX11_forest_16 cn_RX11_252 ?_
      exact k_lret hC (pc := 19) hQ hr dX11_forest_19 h
theorem ct_X11_forest {l : Launch} {G : Gx} {a : Ax} {s : Sx} {N : Nat} {post : Int64 → Sx → Prop} (x1 : Int32) (x2 : Int32) (h : w_X11_forest N x1 x2 s post) : Met l yX11_forest (Cond.code yX11_forest cX11_forest 3 (some .long) :: gw) { frames := 2, cells := 0, slots := 0, locals := 50 } (va_Pc [.ref (adr G a 0 0), .int x1, .int x2] (fun U => FU G a s U)) (Ql G a post) 0 0 (bs_ G) := met_of (plainFor_of_name (by decide)) (Nat.le_of_ble_eq_true rfl) rfl (fun X hC hl hR hQ hr hG hn => by subst hG; exact b_X11_forest hC hR hQ hr hn s x1 x2 h)
theorem ca_X11_forest : Ca yX11_forest cX11_forest 3 (some .long) 2 := ⟨cd_X11_forest, ii_RX11, by decide, by decide, by decide +kernel⟩
def w_X11_fire (N : Nat) (x1 : Int32) (x2 : Int32) (x3 : Int32) (x4 : Int32) (s : Sx) (post : Int32 → Sx → Prop) : Prop := w_X11_isSpot N x1 x2 s (fun r_2 s_1 => (r_2 = 0 → post ((-2)) s_1) ∧ (¬ (r_2 = 0) → w_X11_isWithin N x3 1 60 s_1 (fun r_5 s_4 => (r_5 = 0 → post ((-2)) s_4) ∧ (¬ (r_5 = 0) → w_X11_isWithin N x4 1 99 s_4 (fun r_8 s_7 => (¬ r_8 = 0 → w_X1_add N x1 x2 x3 x4 s_7 (fun r_11 s_10 => post r_11 s_10)) ∧ (¬ (¬ r_8 = 0) → post ((-2)) s_7))))))
set_option maxHeartbeats 4000000 in
theorem b_X11_fire {X : Kx} {a : Ax} {N : Nat} {post : Int32 → Sx → Prop} (hC : Cx X cX11_fire 5 RX11) (hR : X.R = { frames := 2, cells := 0, slots := 0, locals := 43 }) (hQ : X.Q = MQ X.below (Qi X.G a post) X.av X.s 0 0 (bs_ X.G)) (hr : X.meth.sig.returnType = (some .int)) (hn : X.meth.name = "fire") (s : Sx) (x1 : Int32) (x2 : Int32) (x3 : Int32) (x4 : Int32) (h : w_X11_fire N x1 x2 x3 x4 s post) : wk X a s 5 0 [(0, .ref (adr X.G a 0 0)), (1, .int x1), (2, .int x2), (3, .int x3), (4, .int x4)] [] 0 0 := by
  unfold w_X11_fire at h
  refine k_iload_n hC (pc := 0) dX11_fire_0 1 rfl ?_
  refine k_iload_n hC (pc := 1) dX11_fire_1 2 rfl ?_
  refine k_ci (rn_S hC (pc := 2) (As := [.int x1, .int x2]) (rest := []) ca_X11_isSpot ml_RX11_76 sm_X11_isSpot (ct_X11_isSpot x1 x2 h) (by rw [hR]; exact ⟨rfl, rfl, by decide, by decide⟩) rfl (Nat.le_of_ble_eq_true rfl) dX11_fire_2 ⟨by rw [hR]; decide, by rw [hR]; decide⟩) (fun r_2 s_1 h => ?_)
  refine k_if_eq hC (pc := 5) 29 dX11_fire_5 (by decide) (fun c_3 => ?_) (fun c_3 => ?_)
  · have h := h.1 c_3
    refine k_bipush hC (pc := 29) (v := (-2)) dX11_fire_29 bp_m2 ?_
    exact k_iret hC (pc := 31) hQ hr dX11_fire_31 h
  · have h := h.2 c_3
    refine k_iload_n hC (pc := 8) dX11_fire_8 3 rfl ?_
    refine k_iconst hC (pc := 9) (v := 1) dX11_fire_9 ic_1 ?_
    refine k_bipush hC (pc := 10) (v := 60) dX11_fire_10 bp_60 ?_
    refine k_ci (rn_S hC (pc := 12) (As := [.int x3, .int 1, .int 60]) (rest := []) ca_X11_isWithin ml_RX11_80 sm_X11_isWithin (ct_X11_isWithin x3 1 60 h) (by rw [hR]; exact ⟨rfl, rfl, by decide, by decide⟩) rfl (Nat.le_of_ble_eq_true rfl) dX11_fire_12 ⟨by rw [hR]; decide, by rw [hR]; decide⟩) (fun r_5 s_4 h => ?_)
    refine k_if_eq hC (pc := 15) 29 dX11_fire_15 (by decide) (fun c_6 => ?_) (fun c_6 => ?_)
    · have h := h.1 c_6
      refine k_bipush hC (pc := 29) (v := (-2)) dX11_fire_29 bp_m2 ?_
      exact k_iret hC (pc := 31) hQ hr dX11_fire_31 h
    · have h := h.2 c_6
      refine k_iload hC (pc := 18) dX11_fire_18 4 rfl ?_
      refine k_iconst hC (pc := 20) (v := 1) dX11_fire_20 ic_1 ?_
      refine k_bipush hC (pc := 21) (v := 99) dX11_fire_21 bp_99 ?_
      refine k_ci (rn_S hC (pc := 23) (As := [.int x4, .int 1, .int 99]) (rest := []) ca_X11_isWithin ml_RX11_80 sm_X11_isWithin (ct_X11_isWithin x4 1 99 h) (by rw [hR]; exact ⟨rfl, rfl, by decide, by decide⟩) rfl (Nat.le_of_ble_eq_true rfl) dX11_fire_23 ⟨by rw [hR]; decide, by rw [hR]; decide⟩) (fun r_8 s_7 h => ?_)
      refine k_if_ne hC (pc := 26) 32 dX11_fire_26 (by decide) (fun c_9 => ?_) (fun c_9 => ?_)
      · have h := h.1 c_9
        refine k_aload_n hC (pc := 32) dX11_fire_32 0 rfl ?_
        refine gf_X11_11 hC (pc := 33)  fl_RX11_58 dX11_fire_33 ?_
        refine k_iload_n hC (pc := 36) dX11_fire_36 1 rfl ?_
        refine k_iload_n hC (pc := 37) dX11_fire_37 2 rfl ?_
        refine k_iload_n hC (pc := 38) dX11_fire_38 3 rfl ?_
        refine k_iload hC (pc := 39) dX11_fire_39 4 rfl ?_
        refine k_ci (rn_V hC (pc := 41) (As := [.int x1, .int x2, .int x3, .int x4]) (rest := []) ca_X1_add ml_RX11_276 im_X1_add se_X1_add (fx_in f0_25) (ob0_25 _ _ _ _ _) rfl rfl (ct_X1_add x1 x2 x3 x4 h) (by rw [hR]; exact ⟨rfl, rfl, by decide, by decide⟩) rfl (Nat.le_of_ble_eq_true rfl) dX11_fire_41 ⟨by rw [hR]; decide, by rw [hR]; decide⟩) (fun r_11 s_10 h => ?_)
        exact k_iret hC (pc := 44) hQ hr dX11_fire_44 h
      · have h := h.2 c_9
        refine k_bipush hC (pc := 29) (v := (-2)) dX11_fire_29 bp_m2 ?_
        exact k_iret hC (pc := 31) hQ hr dX11_fire_31 h
theorem ct_X11_fire {l : Launch} {G : Gx} {a : Ax} {s : Sx} {N : Nat} {post : Int32 → Sx → Prop} (x1 : Int32) (x2 : Int32) (x3 : Int32) (x4 : Int32) (h : w_X11_fire N x1 x2 x3 x4 s post) : Met l yX11_fire (Cond.code yX11_fire cX11_fire 5 (some .int) :: gw) { frames := 2, cells := 0, slots := 0, locals := 43 } (va_Pc [.ref (adr G a 0 0), .int x1, .int x2, .int x3, .int x4] (fun U => FU G a s U)) (Qi G a post) 0 0 (bs_ G) := met_of (plainFor_of_name (by decide)) (Nat.le_of_ble_eq_true rfl) rfl (fun X hC hl hR hQ hr hG hn => by subst hG; exact b_X11_fire hC hR hQ hr hn s x1 x2 x3 x4 h)
theorem ca_X11_fire : Ca yX11_fire cX11_fire 5 (some .int) 4 := ⟨cd_X11_fire, ii_RX11, by decide, by decide, by decide +kernel⟩
def w_X11_crew (N : Nat) (x1 : Int32) (x2 : Int32) (s : Sx) (post : Int32 → Sx → Prop) : Prop := w_X0_has N x1 s (fun r_2 s_1 => (¬ r_2 = 0 → w_X11_isWithin N x2 0 9 s_1 (fun r_5 s_4 => (¬ r_5 = 0 → vp_in x1 7 ∧ ∀ x_8 : Int32, x_8 = s_4.1 0 5 x1.toNatClampNeg → vp_in x1 7 ∧ ∀ s_10, s_10 = setI s_4 0 5 x1.toNatClampNeg x2 → post x_8 s_10) ∧ (¬ (¬ r_5 = 0) → post ((-2)) s_4))) ∧ (¬ (¬ r_2 = 0) → post ((-1)) s_1))
set_option maxHeartbeats 4000000 in
theorem b_X11_crew {X : Kx} {a : Ax} {N : Nat} {post : Int32 → Sx → Prop} (hC : Cx X cX11_crew 4 RX11) (hR : X.R = { frames := 2, cells := 0, slots := 0, locals := 43 }) (hQ : X.Q = MQ X.below (Qi X.G a post) X.av X.s 0 0 (bs_ X.G)) (hr : X.meth.sig.returnType = (some .int)) (hn : X.meth.name = "crew") (s : Sx) (x1 : Int32) (x2 : Int32) (h : w_X11_crew N x1 x2 s post) : wk X a s 4 0 [(0, .ref (adr X.G a 0 0)), (1, .int x1), (2, .int x2)] [] 0 0 := by
  unfold w_X11_crew at h
  refine k_aload_n hC (pc := 0) dX11_crew_0 0 rfl ?_
  refine gf_X11_0 hC (pc := 1)  fl_RX11_12 dX11_crew_1 ?_
  refine k_iload_n hC (pc := 4) dX11_crew_4 1 rfl ?_
  refine k_ci (rn_V hC (pc := 5) (As := [.int x1]) (rest := []) ca_X0_has ml_RX11_96 im_X0_has se_X0_has (fx_in f0_1) (ob0_1 _ _ _ _ _) rfl rfl (ct_X0_has x1 h) (by rw [hR]; exact ⟨rfl, rfl, by decide, by decide⟩) rfl (Nat.le_of_ble_eq_true rfl) dX11_crew_5 ⟨by rw [hR]; decide, by rw [hR]; decide⟩) (fun r_2 s_1 h => ?_)
  refine k_if_ne hC (pc := 8) 13 dX11_crew_8 (by decide) (fun c_3 => ?_) (fun c_3 => ?_)
  · have h := h.1 c_3
    refine k_iload_n hC (pc := 13) dX11_crew_13 2 rfl ?_
    refine k_iconst hC (pc := 14) (v := 0) dX11_crew_14 ic_0 ?_
    refine k_bipush hC (pc := 15) (v := 9) dX11_crew_15 bp_9 ?_
    refine k_ci (rn_S hC (pc := 17) (As := [.int x2, .int 0, .int 9]) (rest := []) ca_X11_isWithin ml_RX11_80 sm_X11_isWithin (ct_X11_isWithin x2 0 9 h) (by rw [hR]; exact ⟨rfl, rfl, by decide, by decide⟩) rfl (Nat.le_of_ble_eq_true rfl) dX11_crew_17 ⟨by rw [hR]; decide, by rw [hR]; decide⟩) (fun r_5 s_4 h => ?_)
    refine k_if_ne hC (pc := 20) 26 dX11_crew_20 (by decide) (fun c_6 => ?_) (fun c_6 => ?_)
    · have h := h.1 c_6
      refine k_aload_n hC (pc := 26) dX11_crew_26 0 rfl ?_
      refine gf_X11_0 hC (pc := 27)  fl_RX11_12 dX11_crew_27 ?_
      refine gf_X0_3 hC (pc := 30)  fl_RX11_277 dX11_crew_30 ?_
      refine k_iload_n hC (pc := 33) dX11_crew_33 1 rfl ?_
      obtain ⟨c_7, h⟩ := h
      refine r_iald hC (pc := 34) ra0_5 c_7 dX11_crew_34 ?_
      refine k_topi (fun x_8 h_x_8 => ?_)
      have h := h x_8 h_x_8
      refine k_istore_n hC (pc := 35) dX11_crew_35 [(3, .int x_8), (0, .ref (adr X.G a 0 0)), (1, .int x1), (2, .int x2)] (by decide) rfl ?_
      refine k_aload_n hC (pc := 36) dX11_crew_36 1 rfl ?_
      refine gf_X11_0 hC (pc := 37)  fl_RX11_12 dX11_crew_37 ?_
      refine gf_X0_3 hC (pc := 40)  fl_RX11_277 dX11_crew_40 ?_
      refine k_iload_n hC (pc := 43) dX11_crew_43 2 rfl ?_
      refine k_iload_n hC (pc := 44) dX11_crew_44 3 rfl ?_
      obtain ⟨c_9, h⟩ := h
      refine r_iast hC (pc := 45) ra0_5 c_9 dX11_crew_45 (fun s_10 h_s_10 => ?_)
      have h := h s_10 h_s_10
      refine k_iload_n hC (pc := 46) dX11_crew_46 0 rfl ?_
      exact k_iret hC (pc := 47) hQ hr dX11_crew_47 h
    · have h := h.2 c_6
      refine k_bipush hC (pc := 23) (v := (-2)) dX11_crew_23 bp_m2 ?_
      exact k_iret hC (pc := 25) hQ hr dX11_crew_25 h
  · have h := h.2 c_3
    refine k_iconst hC (pc := 11) (v := (-1)) dX11_crew_11 ic_m1 ?_
    exact k_iret hC (pc := 12) hQ hr dX11_crew_12 h
theorem ct_X11_crew {l : Launch} {G : Gx} {a : Ax} {s : Sx} {N : Nat} {post : Int32 → Sx → Prop} (x1 : Int32) (x2 : Int32) (h : w_X11_crew N x1 x2 s post) : Met l yX11_crew (Cond.code yX11_crew cX11_crew 4 (some .int) :: gw) { frames := 2, cells := 0, slots := 0, locals := 43 } (va_Pc [.ref (adr G a 0 0), .int x1, .int x2] (fun U => FU G a s U)) (Qi G a post) 0 0 (bs_ G) := met_of (plainFor_of_name (by decide)) (Nat.le_of_ble_eq_true rfl) rfl (fun X hC hl hR hQ hr hG hn => by subst hG; exact b_X11_crew hC hR hQ hr hn s x1 x2 h)
theorem ca_X11_crew : Ca yX11_crew cX11_crew 4 (some .int) 2 := ⟨cd_X11_crew, ii_RX11, by decide, by decide, by decide +kernel⟩
def w_X11_lost (N : Nat) (x1 : Int32) (s : Sx) (post : Int32 → Sx → Prop) : Prop := w_X1_isCall N x1 s (fun r_2 s_1 => (r_2 = 0 → post ((-2)) s_1) ∧ (¬ (r_2 = 0) → w_X1_lostByCall N x1 s_1 (fun r_5 s_4 => post r_5 s_4)))
set_option maxHeartbeats 4000000 in
theorem b_X11_lost {X : Kx} {a : Ax} {N : Nat} {post : Int32 → Sx → Prop} (hC : Cx X cX11_lost 2 RX11) (hR : X.R = { frames := 4, cells := 0, slots := 0, locals := 93 }) (hQ : X.Q = MQ X.below (Qi X.G a post) X.av X.s 0 0 (bs_ X.G)) (hr : X.meth.sig.returnType = (some .int)) (hn : X.meth.name = "lost") (s : Sx) (x1 : Int32) (h : w_X11_lost N x1 s post) : wk X a s 2 0 [(0, .ref (adr X.G a 0 0)), (1, .int x1)] [] 0 0 := by
  unfold w_X11_lost at h
  refine k_aload_n hC (pc := 0) dX11_lost_0 0 rfl ?_
  refine gf_X11_11 hC (pc := 1)  fl_RX11_58 dX11_lost_1 ?_
  refine k_aload_n hC (pc := 4) dX11_lost_4 0 rfl ?_
  refine gf_X11_0 hC (pc := 5)  fl_RX11_12 dX11_lost_5 ?_
  refine k_iload_n hC (pc := 8) dX11_lost_8 1 rfl ?_
  refine k_ci (rn_V hC (pc := 9) (As := [.ref (adr X.G a 0 1), .int x1]) (rest := []) ca_X1_isCall ml_RX11_280 im_X1_isCall se_X1_isCall (fx_in f0_25) (ob0_25 _ _ _ _ _) rfl rfl (ct_X1_isCall x1 h) (by rw [hR]; exact ⟨rfl, rfl, by decide, by decide⟩) rfl (Nat.le_of_ble_eq_true rfl) dX11_lost_9 ⟨by rw [hR]; decide, by rw [hR]; decide⟩) (fun r_2 s_1 h => ?_)
  refine k_if_eq hC (pc := 12) 30 dX11_lost_12 (by decide) (fun c_3 => ?_) (fun c_3 => ?_)
  · have h := h.1 c_3
    refine k_bipush hC (pc := 30) (v := (-2)) dX11_lost_30 bp_m2 ?_
    exact k_iret hC (pc := 32) hQ hr dX11_lost_32 h
  · have h := h.2 c_3
    refine k_aload_n hC (pc := 15) dX11_lost_15 0 rfl ?_
    refine gf_X11_11 hC (pc := 16)  fl_RX11_58 dX11_lost_16 ?_
    refine k_aload_n hC (pc := 19) dX11_lost_19 0 rfl ?_
    refine gf_X11_0 hC (pc := 20)  fl_RX11_12 dX11_lost_20 ?_
    refine k_iload_n hC (pc := 23) dX11_lost_23 1 rfl ?_
    refine k_ci (rn_V hC (pc := 24) (As := [.ref (adr X.G a 0 1), .int x1]) (rest := []) ca_X1_lostByCall ml_RX11_284 im_X1_lostByCall se_X1_lostByCall (fx_in f0_25) (ob0_25 _ _ _ _ _) rfl rfl (ct_X1_lostByCall x1 h) (by rw [hR]; exact ⟨rfl, rfl, by decide, by decide⟩) rfl (Nat.le_of_ble_eq_true rfl) dX11_lost_24 ⟨by rw [hR]; decide, by rw [hR]; decide⟩) (fun r_5 s_4 h => ?_)
    refine k_goto hC (pc := 27) 32 dX11_lost_27 (by decide) ?_
    exact k_iret hC (pc := 32) hQ hr dX11_lost_32 h
theorem ct_X11_lost {l : Launch} {G : Gx} {a : Ax} {s : Sx} {N : Nat} {post : Int32 → Sx → Prop} (x1 : Int32) (h : w_X11_lost N x1 s post) : Met l yX11_lost (Cond.code yX11_lost cX11_lost 2 (some .int) :: gw) { frames := 4, cells := 0, slots := 0, locals := 93 } (va_Pc [.ref (adr G a 0 0), .int x1] (fun U => FU G a s U)) (Qi G a post) 0 0 (bs_ G) := met_of (plainFor_of_name (by decide)) (Nat.le_of_ble_eq_true rfl) rfl (fun X hC hl hR hQ hr hG hn => by subst hG; exact b_X11_lost hC hR hQ hr hn s x1 h)
theorem ca_X11_lost : Ca yX11_lost cX11_lost 2 (some .int) 1 := ⟨cd_X11_lost, ii_RX11, by decide, by decide, by decide +kernel⟩
def w_X11_call (N : Nat) (x1 : Int32) (s : Sx) (post : Int32 → Sx → Prop) : Prop := (¬ x1 = ((-1)) → (¬ x1 = ((-2)) → w_X0_has N x1 s (fun r_4 s_3 => (r_4 = 0 → post ((-1)) s_3) ∧ (¬ (r_4 = 0) → w_X1_bestCall N s_3 (fun r_7 s_6 => w_X1_goalIn N r_7 x1 s_6 (fun r_9 s_8 => post r_9 s_8))))) ∧ (¬ (¬ x1 = ((-2))) → w_X1_bestCall N s (fun r_11 s_10 => w_X1_handsIn N r_11 s_10 (fun r_13 s_12 => post r_13 s_12)))) ∧ (¬ (¬ x1 = ((-1))) → w_X1_bestCall N s (fun r_15 s_14 => w_X1_lostIn N r_15 s_14 (fun r_17 s_16 => post r_17 s_16)))
set_option maxHeartbeats 4000000 in
theorem b_X11_call {X : Kx} {a : Ax} {N : Nat} {post : Int32 → Sx → Prop} (hC : Cx X cX11_call 2 RX11) (hR : X.R = { frames := 4, cells := 0, slots := 0, locals := 98 }) (hQ : X.Q = MQ X.below (Qi X.G a post) X.av X.s 0 0 (bs_ X.G)) (hr : X.meth.sig.returnType = (some .int)) (hn : X.meth.name = "call") (s : Sx) (x1 : Int32) (h : w_X11_call N x1 s post) : wk X a s 2 0 [(0, .ref (adr X.G a 0 0)), (1, .int x1)] [] 0 0 := by
  unfold w_X11_call at h
  refine k_iload_n hC (pc := 0) dX11_call_0 1 rfl ?_
  refine k_iconst hC (pc := 1) (v := (-1)) dX11_call_1 ic_m1 ?_
  refine k_icmp_ne hC (pc := 2) 20 dX11_call_2 (by decide) (fun c_1 => ?_) (fun c_1 => ?_)
  · have h := h.1 c_1
    refine k_iload_n hC (pc := 20) dX11_call_20 1 rfl ?_
    refine k_bipush hC (pc := 21) (v := (-2)) dX11_call_21 bp_m2 ?_
    refine k_icmp_ne hC (pc := 23) 41 dX11_call_23 (by decide) (fun c_2 => ?_) (fun c_2 => ?_)
    · have h := h.1 c_2
      refine k_aload_n hC (pc := 41) dX11_call_41 0 rfl ?_
      refine gf_X11_0 hC (pc := 42)  fl_RX11_12 dX11_call_42 ?_
      refine k_iload_n hC (pc := 45) dX11_call_45 1 rfl ?_
      refine k_ci (rn_V hC (pc := 46) (As := [.int x1]) (rest := []) ca_X0_has ml_RX11_96 im_X0_has se_X0_has (fx_in f0_1) (ob0_1 _ _ _ _ _) rfl rfl (ct_X0_has x1 h) (by rw [hR]; exact ⟨rfl, rfl, by decide, by decide⟩) rfl (Nat.le_of_ble_eq_true rfl) dX11_call_46 ⟨by rw [hR]; decide, by rw [hR]; decide⟩) (fun r_4 s_3 h => ?_)
      refine k_if_eq hC (pc := 49) 70 dX11_call_49 (by decide) (fun c_5 => ?_) (fun c_5 => ?_)
      · have h := h.1 c_5
        refine k_iconst hC (pc := 70) (v := (-1)) dX11_call_70 ic_m1 ?_
        exact k_iret hC (pc := 71) hQ hr dX11_call_71 h
      · have h := h.2 c_5
        refine k_aload_n hC (pc := 52) dX11_call_52 0 rfl ?_
        refine gf_X11_11 hC (pc := 53)  fl_RX11_58 dX11_call_53 ?_
        refine k_aload_n hC (pc := 56) dX11_call_56 0 rfl ?_
        refine gf_X11_0 hC (pc := 57)  fl_RX11_12 dX11_call_57 ?_
        refine k_cl (rn_V hC (pc := 60) (As := [.ref (adr X.G a 0 1)]) (rest := []) ca_X1_bestCall ml_RX11_288 im_X1_bestCall se_X1_bestCall (fx_in f0_25) (ob0_25 _ _ _ _ _) rfl rfl (ct_X1_bestCall h) (by rw [hR]; exact ⟨rfl, rfl, by decide, by decide⟩) rfl (Nat.le_of_ble_eq_true rfl) dX11_call_60 ⟨by rw [hR]; decide, by rw [hR]; decide⟩) (fun r_7 s_6 h => ?_)
        refine k_iload_n hC (pc := 63) dX11_call_63 1 rfl ?_
        refine k_ci (rn_S hC (pc := 64) (As := [.long r_7, .int x1]) (rest := []) ca_X1_goalIn ml_RX11_299 sm_X1_goalIn (ct_X1_goalIn r_7 x1 h) (by rw [hR]; exact ⟨rfl, rfl, by decide, by decide⟩) rfl (Nat.le_of_ble_eq_true rfl) dX11_call_64 ⟨by rw [hR]; decide, by rw [hR]; decide⟩) (fun r_9 s_8 h => ?_)
        refine k_goto hC (pc := 67) 71 dX11_call_67 (by decide) ?_
        exact k_iret hC (pc := 71) hQ hr dX11_call_71 h
    · have h := h.2 c_2
      refine k_aload_n hC (pc := 26) dX11_call_26 0 rfl ?_
      refine gf_X11_11 hC (pc := 27)  fl_RX11_58 dX11_call_27 ?_
      refine k_aload_n hC (pc := 30) dX11_call_30 0 rfl ?_
      refine gf_X11_0 hC (pc := 31)  fl_RX11_12 dX11_call_31 ?_
      refine k_cl (rn_V hC (pc := 34) (As := [.ref (adr X.G a 0 1)]) (rest := []) ca_X1_bestCall ml_RX11_288 im_X1_bestCall se_X1_bestCall (fx_in f0_25) (ob0_25 _ _ _ _ _) rfl rfl (ct_X1_bestCall h) (by rw [hR]; exact ⟨rfl, rfl, by decide, by decide⟩) rfl (Nat.le_of_ble_eq_true rfl) dX11_call_34 ⟨by rw [hR]; decide, by rw [hR]; decide⟩) (fun r_11 s_10 h => ?_)
      refine k_ci (rn_S hC (pc := 37) (As := [.long r_11]) (rest := []) ca_X1_handsIn ml_RX11_296 sm_X1_handsIn (ct_X1_handsIn r_11 h) (by rw [hR]; exact ⟨rfl, rfl, by decide, by decide⟩) rfl (Nat.le_of_ble_eq_true rfl) dX11_call_37 ⟨by rw [hR]; decide, by rw [hR]; decide⟩) (fun r_13 s_12 h => ?_)
      exact k_iret hC (pc := 40) hQ hr dX11_call_40 h
  · have h := h.2 c_1
    refine k_aload_n hC (pc := 5) dX11_call_5 0 rfl ?_
    refine gf_X11_11 hC (pc := 6)  fl_RX11_58 dX11_call_6 ?_
    refine k_aload_n hC (pc := 9) dX11_call_9 0 rfl ?_
    refine gf_X11_0 hC (pc := 10)  fl_RX11_12 dX11_call_10 ?_
    refine k_cl (rn_V hC (pc := 13) (As := [.ref (adr X.G a 0 1)]) (rest := []) ca_X1_bestCall ml_RX11_288 im_X1_bestCall se_X1_bestCall (fx_in f0_25) (ob0_25 _ _ _ _ _) rfl rfl (ct_X1_bestCall h) (by rw [hR]; exact ⟨rfl, rfl, by decide, by decide⟩) rfl (Nat.le_of_ble_eq_true rfl) dX11_call_13 ⟨by rw [hR]; decide, by rw [hR]; decide⟩) (fun r_15 s_14 h => ?_)
    refine k_ci (rn_S hC (pc := 16) (As := [.long r_15]) (rest := []) ca_X1_lostIn ml_RX11_292 sm_X1_lostIn (ct_X1_lostIn r_15 h) (by rw [hR]; exact ⟨rfl, rfl, by decide, by decide⟩) rfl (Nat.le_of_ble_eq_true rfl) dX11_call_16 ⟨by rw [hR]; decide, by rw [hR]; decide⟩) (fun r_17 s_16 h => ?_)
    exact k_iret hC (pc := 19) hQ hr dX11_call_19 h
theorem ct_X11_call {l : Launch} {G : Gx} {a : Ax} {s : Sx} {N : Nat} {post : Int32 → Sx → Prop} (x1 : Int32) (h : w_X11_call N x1 s post) : Met l yX11_call (Cond.code yX11_call cX11_call 2 (some .int) :: gw) { frames := 4, cells := 0, slots := 0, locals := 98 } (va_Pc [.ref (adr G a 0 0), .int x1] (fun U => FU G a s U)) (Qi G a post) 0 0 (bs_ G) := met_of (plainFor_of_name (by decide)) (Nat.le_of_ble_eq_true rfl) rfl (fun X hC hl hR hQ hr hG hn => by subst hG; exact b_X11_call hC hR hQ hr hn s x1 h)
theorem ca_X11_call : Ca yX11_call cX11_call 2 (some .int) 1 := ⟨cd_X11_call, ii_RX11, by decide, by decide, by decide +kernel⟩
def w_X11_place (N : Nat) (x1 : Int32) (x2 : Int32) (x3 : Int32) (x4 : Int32) (s : Sx) (post : Int32 → Sx → Prop) : Prop := w_X11_isSpot N x1 x2 s (fun r_2 s_1 => (r_2 = 0 → post ((-2)) s_1) ∧ (¬ (r_2 = 0) → w_X11_isWithin N x3 0 999 s_1 (fun r_5 s_4 => (¬ r_5 = 0 → w_X5_add N x1 x2 x3 x4 s_4 (fun r_8 s_7 => post r_8 s_7)) ∧ (¬ (¬ r_5 = 0) → post ((-2)) s_4))))
set_option maxHeartbeats 4000000 in
theorem b_X11_place {X : Kx} {a : Ax} {N : Nat} {post : Int32 → Sx → Prop} (hC : Cx X cX11_place 5 RX11) (hR : X.R = { frames := 2, cells := 0, slots := 0, locals := 43 }) (hQ : X.Q = MQ X.below (Qi X.G a post) X.av X.s 0 0 (bs_ X.G)) (hr : X.meth.sig.returnType = (some .int)) (hn : X.meth.name = "place") (s : Sx) (x1 : Int32) (x2 : Int32) (x3 : Int32) (x4 : Int32) (h : w_X11_place N x1 x2 x3 x4 s post) : wk X a s 5 0 [(0, .ref (adr X.G a 0 0)), (1, .int x1), (2, .int x2), (3, .int x3), (4, .int x4)] [] 0 0 := by
  unfold w_X11_place at h
  refine k_iload_n hC (pc := 0) dX11_place_0 1 rfl ?_
  refine k_iload_n hC (pc := 1) dX11_place_1 2 rfl ?_
  refine k_ci (rn_S hC (pc := 2) (As := [.int x1, .int x2]) (rest := []) ca_X11_isSpot ml_RX11_76 sm_X11_isSpot (ct_X11_isSpot x1 x2 h) (by rw [hR]; exact ⟨rfl, rfl, by decide, by decide⟩) rfl (Nat.le_of_ble_eq_true rfl) dX11_place_2 ⟨by rw [hR]; decide, by rw [hR]; decide⟩) (fun r_2 s_1 h => ?_)
  refine k_if_eq hC (pc := 5) 19 dX11_place_5 (by decide) (fun c_3 => ?_) (fun c_3 => ?_)
  · have h := h.1 c_3
    refine k_bipush hC (pc := 19) (v := (-2)) dX11_place_19 bp_m2 ?_
    exact k_iret hC (pc := 21) hQ hr dX11_place_21 h
  · have h := h.2 c_3
    refine k_iload_n hC (pc := 8) dX11_place_8 3 rfl ?_
    refine k_iconst hC (pc := 9) (v := 0) dX11_place_9 ic_0 ?_
    refine k_sipush hC (pc := 10) (v := 999) dX11_place_10 sp_999 ?_
    refine k_ci (rn_S hC (pc := 13) (As := [.int x3, .int 0, .int 999]) (rest := []) ca_X11_isWithin ml_RX11_80 sm_X11_isWithin (ct_X11_isWithin x3 0 999 h) (by rw [hR]; exact ⟨rfl, rfl, by decide, by decide⟩) rfl (Nat.le_of_ble_eq_true rfl) dX11_place_13 ⟨by rw [hR]; decide, by rw [hR]; decide⟩) (fun r_5 s_4 h => ?_)
    refine k_if_ne hC (pc := 16) 22 dX11_place_16 (by decide) (fun c_6 => ?_) (fun c_6 => ?_)
    · have h := h.1 c_6
      refine k_aload_n hC (pc := 22) dX11_place_22 0 rfl ?_
      refine gf_X11_12 hC (pc := 23)  fl_RX11_65 dX11_place_23 ?_
      refine k_iload_n hC (pc := 26) dX11_place_26 1 rfl ?_
      refine k_iload_n hC (pc := 27) dX11_place_27 2 rfl ?_
      refine k_iload_n hC (pc := 28) dX11_place_28 3 rfl ?_
      refine k_iload hC (pc := 29) dX11_place_29 4 rfl ?_
      refine k_ci (rn_V hC (pc := 31) (As := [.int x1, .int x2, .int x3, .int x4]) (rest := []) ca_X5_add ml_RX11_303 im_X5_add se_X5_add (fx_in f0_34) (ob0_34 _ _ _ _ _) rfl rfl (ct_X5_add x1 x2 x3 x4 h) (by rw [hR]; exact ⟨rfl, rfl, by decide, by decide⟩) rfl (Nat.le_of_ble_eq_true rfl) dX11_place_31 ⟨by rw [hR]; decide, by rw [hR]; decide⟩) (fun r_8 s_7 h => ?_)
      exact k_iret hC (pc := 34) hQ hr dX11_place_34 h
    · have h := h.2 c_6
      refine k_bipush hC (pc := 19) (v := (-2)) dX11_place_19 bp_m2 ?_
      exact k_iret hC (pc := 21) hQ hr dX11_place_21 h
theorem ct_X11_place {l : Launch} {G : Gx} {a : Ax} {s : Sx} {N : Nat} {post : Int32 → Sx → Prop} (x1 : Int32) (x2 : Int32) (x3 : Int32) (x4 : Int32) (h : w_X11_place N x1 x2 x3 x4 s post) : Met l yX11_place (Cond.code yX11_place cX11_place 5 (some .int) :: gw) { frames := 2, cells := 0, slots := 0, locals := 43 } (va_Pc [.ref (adr G a 0 0), .int x1, .int x2, .int x3, .int x4] (fun U => FU G a s U)) (Qi G a post) 0 0 (bs_ G) := met_of (plainFor_of_name (by decide)) (Nat.le_of_ble_eq_true rfl) rfl (fun X hC hl hR hQ hr hG hn => by subst hG; exact b_X11_place hC hR hQ hr hn s x1 x2 x3 x4 h)
theorem ca_X11_place : Ca yX11_place cX11_place 5 (some .int) 4 := ⟨cd_X11_place, ii_RX11, by decide, by decide, by decide +kernel⟩
def w_X11_move_20 (N : Nat) (post : Int64 → Sx → Prop) (s : Sx) (x1 : Int32) : Prop := w_X5_findBestMove N s (fun r_3 s_2 => (¬ x1 = ((-1)) → (r_3 = 0 → post ((-9)) s_2) ∧ (¬ (r_3 = 0) → vp_in x1 7 ∧ post ((s_2.1 0 40 x1.toNatClampNeg).toInt64) s_2)) ∧ (¬ (¬ x1 = ((-1))) → (r_3 = 0 → post ((-9223372036854775808)) s_2) ∧ (¬ (r_3 = 0) → w_X5_bestGain N s_2 (fun r_9 s_8 => post r_9.toInt64 s_8))))
def w_X11_move (N : Nat) (x1 : Int32) (s : Sx) (post : Int64 → Sx → Prop) : Prop := (x1 = ((-1)) → w_X11_move_20 N post s x1) ∧ (¬ (x1 = ((-1))) → w_X0_has N x1 s (fun r_11 s_10 => (¬ r_11 = 0 → w_X11_move_20 N post s_10 x1) ∧ (¬ (¬ r_11 = 0) → post ((-9223372036854775808)) s_10)))
set_option maxHeartbeats 4000000 in
theorem b_X11_move_20 {X : Kx} {a : Ax} {N : Nat} {post : Int64 → Sx → Prop}  (hC : Cx X cX11_move 3 RX11) (hR : X.R = { frames := 6, cells := 0, slots := 0, locals := 138 }) (hQ : X.Q = MQ X.below (Ql X.G a post) X.av X.s 0 0 (bs_ X.G)) (hr : X.meth.sig.returnType = (some .long))   (s : Sx) (x1 : Int32) (h : w_X11_move_20 N post  s x1) : wk X a s 3 20 [(0, .ref (adr X.G a 0 0)), (1, .int x1)] [] 0 0 := by
  unfold w_X11_move_20 at h
  refine k_aload_n hC (pc := 20) dX11_move_20 0 rfl ?_
  refine gf_X11_12 hC (pc := 21)  fl_RX11_65 dX11_move_21 ?_
  refine k_aload_n hC (pc := 24) dX11_move_24 0 rfl ?_
  refine gf_X11_0 hC (pc := 25)  fl_RX11_12 dX11_move_25 ?_
  refine k_ci (rn_V hC (pc := 28) (As := [.ref (adr X.G a 0 1)]) (rest := []) ca_X5_findBestMove ml_RX11_306 im_X5_findBestMove se_X5_findBestMove (fx_in f0_34) (ob0_34 _ _ _ _ _) rfl rfl (ct_X5_findBestMove h) (by rw [hR]; exact ⟨rfl, rfl, by decide, by decide⟩) rfl (Nat.le_of_ble_eq_true rfl) dX11_move_28 ⟨by rw [hR]; decide, by rw [hR]; decide⟩) (fun r_3 s_2 h => ?_)
  refine k_istore_n hC (pc := 31) dX11_move_31 [(2, .int r_3), (0, .ref (adr X.G a 0 0)), (1, .int x1)] (by decide) rfl ?_
  refine k_iload_n hC (pc := 32) dX11_move_32 2 rfl ?_
  refine k_iconst hC (pc := 33) (v := (-1)) dX11_move_33 ic_m1 ?_
  refine k_icmp_ne hC (pc := 34) 56 dX11_move_34 (by decide) (fun c_4 => ?_) (fun c_4 => ?_)
  · have h := h.1 c_4
    refine k_iload_n hC (pc := 56) dX11_move_56 0 rfl ?_
    refine k_if_eq hC (pc := 57) 73 dX11_move_57 (by decide) (fun c_5 => ?_) (fun c_5 => ?_)
    · have h := h.1 c_5
      refine k_ldc2 hC (pc := 73) dX11_move_73 cn_RX11_316 ?_
      exact k_lret hC (pc := 76) hQ hr dX11_move_76 h
    · have h := h.2 c_5
      refine k_aload_n hC (pc := 60) dX11_move_60 1 rfl ?_
      refine gf_X11_12 hC (pc := 61)  fl_RX11_65 dX11_move_61 ?_
      refine gf_X5_6 hC (pc := 64)  fl_RX11_313 dX11_move_64 ?_
      refine k_iload_n hC (pc := 67) dX11_move_67 2 rfl ?_
      obtain ⟨c_6, h⟩ := h
      refine r_iald hC (pc := 68) ra0_40 c_6 dX11_move_68 ?_
      refine k_i2l hC (pc := 69) dX11_move_69 ?_
      refine k_goto hC (pc := 70) 76 dX11_move_70 (by decide) ?_
      exact k_lret hC (pc := 76) hQ hr dX11_move_76 h
  · have h := h.2 c_4
    refine k_iload_n hC (pc := 37) dX11_move_37 0 rfl ?_
    refine k_if_eq hC (pc := 38) 52 dX11_move_38 (by decide) (fun c_7 => ?_) (fun c_7 => ?_)
    · have h := h.1 c_7
      refine k_ldc2 hC (pc := 52) dX11_move_52 cn_RX11_252 ?_
      exact k_lret hC (pc := 55) hQ hr dX11_move_55 h
    · have h := h.2 c_7
      refine k_aload_n hC (pc := 41) dX11_move_41 1 rfl ?_
      refine gf_X11_12 hC (pc := 42)  fl_RX11_65 dX11_move_42 ?_
      refine k_ci (rn_V hC (pc := 45) (As := []) (rest := []) ca_X5_bestGain ml_RX11_310 im_X5_bestGain se_X5_bestGain (fx_in f0_34) (ob0_34 _ _ _ _ _) rfl rfl (ct_X5_bestGain h) (by rw [hR]; exact ⟨rfl, rfl, by decide, by decide⟩) rfl (Nat.le_of_ble_eq_true rfl) dX11_move_45 ⟨by rw [hR]; decide, by rw [hR]; decide⟩) (fun r_9 s_8 h => ?_)
      refine k_i2l hC (pc := 48) dX11_move_48 ?_
      refine k_goto hC (pc := 49) 55 dX11_move_49 (by decide) ?_
      exact k_lret hC (pc := 55) hQ hr dX11_move_55 h
set_option maxHeartbeats 4000000 in
theorem b_X11_move {X : Kx} {a : Ax} {N : Nat} {post : Int64 → Sx → Prop} (hC : Cx X cX11_move 3 RX11) (hR : X.R = { frames := 6, cells := 0, slots := 0, locals := 138 }) (hQ : X.Q = MQ X.below (Ql X.G a post) X.av X.s 0 0 (bs_ X.G)) (hr : X.meth.sig.returnType = (some .long)) (hn : X.meth.name = "move") (s : Sx) (x1 : Int32) (h : w_X11_move N x1 s post) : wk X a s 3 0 [(0, .ref (adr X.G a 0 0)), (1, .int x1)] [] 0 0 := by
  unfold w_X11_move at h
  refine k_iload_n hC (pc := 0) dX11_move_0 1 rfl ?_
  refine k_iconst hC (pc := 1) (v := (-1)) dX11_move_1 ic_m1 ?_
  refine k_icmp_eq hC (pc := 2) 20 dX11_move_2 (by decide) (fun c_1 => ?_) (fun c_1 => ?_)
  · have h := h.1 c_1
    exact b_X11_move_20 hC hR hQ hr _ _ h
  · have h := h.2 c_1
    refine k_aload_n hC (pc := 5) dX11_move_5 0 rfl ?_
    refine gf_X11_0 hC (pc := 6)  fl_RX11_12 dX11_move_6 ?_
    refine k_iload_n hC (pc := 9) dX11_move_9 1 rfl ?_
    refine k_ci (rn_V hC (pc := 10) (As := [.int x1]) (rest := []) ca_X0_has ml_RX11_96 im_X0_has se_X0_has (fx_in f0_1) (ob0_1 _ _ _ _ _) rfl rfl (ct_X0_has x1 h) (by rw [hR]; exact ⟨rfl, rfl, by decide, by decide⟩) rfl (Nat.le_of_ble_eq_true rfl) dX11_move_10 ⟨by rw [hR]; decide, by rw [hR]; decide⟩) (fun r_11 s_10 h => ?_)
    refine k_if_ne hC (pc := 13) 20 dX11_move_13 (by decide) (fun c_12 => ?_) (fun c_12 => ?_)
    · have h := h.1 c_12
      exact b_X11_move_20 hC hR hQ hr _ _ h
    · have h := h.2 c_12
      refine k_ldc2 hC (pc := 16) dX11_move_16 cn_RX11_252 ?_
      exact k_lret hC (pc := 19) hQ hr dX11_move_19 h
theorem ct_X11_move {l : Launch} {G : Gx} {a : Ax} {s : Sx} {N : Nat} {post : Int64 → Sx → Prop} (x1 : Int32) (h : w_X11_move N x1 s post) : Met l yX11_move (Cond.code yX11_move cX11_move 3 (some .long) :: gw) { frames := 6, cells := 0, slots := 0, locals := 138 } (va_Pc [.ref (adr G a 0 0), .int x1] (fun U => FU G a s U)) (Ql G a post) 0 0 (bs_ G) := met_of (plainFor_of_name (by decide)) (Nat.le_of_ble_eq_true rfl) rfl (fun X hC hl hR hQ hr hG hn => by subst hG; exact b_X11_move hC hR hQ hr hn s x1 h)
theorem ca_X11_move : Ca yX11_move cX11_move 3 (some .long) 1 := ⟨cd_X11_move, ii_RX11, by decide, by decide, by decide +kernel⟩
def w_X11_gain (N : Nat) (x1 : Int32) (x2 : Int32) (x3 : Int32) (x4 : Int32) (s : Sx) (post : Int64 → Sx → Prop) : Prop := ∀ s_1, s_1 = setI s 0 0 14 0 → w_X11_sheetAt N x1 s_1 (fun o_3 s_2 => (o_3 = none → post ((-9223372036854775808)) s_2) ∧ (∀ j_4, o_3 = some j_4 → j_4 < 4 ∧ w_X11_isLane N x2 s_2 (fun r_6 s_5 => (¬ r_6 = 0 → w_X7_faultOf N j_4 x2 x3 x4 s_5 (fun r_9 s_8 => w_X11_noteFault N r_9 s_8 (fun r_11 s_10 => (¬ r_11 = 0 → post ((-9223372036854775808)) s_10) ∧ (¬ (¬ r_11 = 0) → (x4 = (s_10.1 0 1 4) → w_X5_gainBy N j_4 x3 s_10 (fun r_15 s_14 => post r_15 s_14)) ∧ (¬ (x4 = (s_10.1 0 1 4)) → post ((-9223372036854775808)) s_10))))) ∧ (¬ (¬ r_6 = 0) → post ((-9223372036854775808)) s_5))))
set_option maxHeartbeats 4000000 in
theorem b_X11_gain {X : Kx} {a : Ax} {N : Nat} {post : Int64 → Sx → Prop} (hC : Cx X cX11_gain 7 RX11) (hR : X.R = { frames := 4, cells := 0, slots := 0, locals := 94 }) (hQ : X.Q = MQ X.below (Ql X.G a post) X.av X.s 0 0 (bs_ X.G)) (hr : X.meth.sig.returnType = (some .long)) (hn : X.meth.name = "gain") (s : Sx) (x1 : Int32) (x2 : Int32) (x3 : Int32) (x4 : Int32) (h : w_X11_gain N x1 x2 x3 x4 s post) : wk X a s 7 0 [(0, .ref (adr X.G a 0 0)), (1, .int x1), (2, .int x2), (3, .int x3), (4, .int x4)] [] 0 0 := by
  unfold w_X11_gain at h
  refine k_aload_n hC (pc := 0) dX11_gain_0 0 rfl ?_
  refine k_iconst hC (pc := 1) (v := 0) dX11_gain_1 ic_0 ?_
  refine pf_X11_14 hC (pc := 2)  fl_RX11_136 dX11_gain_2 (fun s_1 h_s_1 => ?_)
  have h := h s_1 h_s_1
  refine k_aload_n hC (pc := 5) dX11_gain_5 0 rfl ?_
  refine k_iload_n hC (pc := 6) dX11_gain_6 1 rfl ?_
  refine k_cq (k := 0) (off := 42) (rn_V hC (pc := 7) (As := [.int x1]) (rest := []) ca_X11_sheetAt ml_RX11_139 im_X11_sheetAt se_X11_sheetAt (fx_in f0_0) (ob0_0 _ _ _ _ _) rfl rfl (ct_X11_sheetAt x1 h) (by rw [hR]; exact ⟨rfl, rfl, by decide, by decide⟩) rfl (Nat.le_of_ble_eq_true rfl) dX11_gain_7 ⟨by rw [hR]; decide, by rw [hR]; decide⟩) (fun s_2 h => ?_) (fun j_4 s_2 h => ?_)
  · have h := h.1 rfl
    refine k_astoreN hC (pc := 10) dX11_gain_10 [(5, .null), (0, .ref (adr X.G a 0 0)), (1, .int x1), (2, .int x2), (3, .int x3), (4, .int x4)] (by decide) rfl ?_
    refine k_aloadN hC (pc := 12) dX11_gain_12 0 rfl ?_
    refine k_ifnullN hC (pc := 14) 24 dX11_gain_14 (by decide) ?_
    refine k_ldc2 hC (pc := 24) dX11_gain_24 cn_RX11_252 ?_
    exact k_lret hC (pc := 27) hQ hr dX11_gain_27 h
  · have h := h.2 j_4 rfl
    obtain ⟨hj_4, h⟩ := h
    refine k_astore hC (pc := 10) dX11_gain_10 [(5, .ref (adr X.G a 0 (42 + j_4))), (0, .ref (adr X.G a 0 0)), (1, .int x1), (2, .int x2), (3, .int x3), (4, .int x4)] (by decide) rfl ?_
    refine k_aload hC (pc := 12) dX11_gain_12 0 rfl ?_
    refine k_ifnull hC (pc := 14) dX11_gain_14 ?_
    refine k_iload_n hC (pc := 17) dX11_gain_17 3 rfl ?_
    refine k_ci (rn_S hC (pc := 18) (As := [.int x2]) (rest := []) ca_X11_isLane ml_RX11_143 sm_X11_isLane (ct_X11_isLane x2 h) (by rw [hR]; exact ⟨rfl, rfl, by decide, by decide⟩) rfl (Nat.le_of_ble_eq_true rfl) dX11_gain_18 ⟨by rw [hR]; decide, by rw [hR]; decide⟩) (fun r_6 s_5 h => ?_)
    refine k_if_ne hC (pc := 21) 28 dX11_gain_21 (by decide) (fun c_7 => ?_) (fun c_7 => ?_)
    · have h := h.1 c_7
      refine k_aload_n hC (pc := 28) dX11_gain_28 1 rfl ?_
      refine k_aload hC (pc := 29) dX11_gain_29 0 rfl ?_
      refine k_iload_n hC (pc := 31) dX11_gain_31 3 rfl ?_
      refine k_iload_n hC (pc := 32) dX11_gain_32 4 rfl ?_
      refine k_iload hC (pc := 33) dX11_gain_33 5 rfl ?_
      refine k_ci (rn_V hC (pc := 35) (As := [.int x2, .int x3, .int x4]) (rest := [.ref (adr X.G a 0 0)]) ca_X7_faultOf ml_RX11_146 im_X7_faultOf se_X7_faultOf (fx_in (sh_f hj_4)) (sh_o hj_4 _ _ _ _ _) rfl rfl (ct_X7_faultOf j_4 x2 x3 x4 h) (by rw [hR]; exact ⟨rfl, rfl, by decide, by decide⟩) rfl (Nat.le_of_ble_eq_true rfl) dX11_gain_35 ⟨by rw [hR]; decide, by rw [hR]; decide⟩) (fun r_9 s_8 h => ?_)
      refine k_ci (rn_V hC (pc := 38) (As := [.int r_9]) (rest := []) ca_X11_noteFault ml_RX11_149 im_X11_noteFault se_X11_noteFault (fx_in f0_0) (ob0_0 _ _ _ _ _) rfl rfl (ct_X11_noteFault r_9 h) (by rw [hR]; exact ⟨rfl, rfl, by decide, by decide⟩) rfl (Nat.le_of_ble_eq_true rfl) dX11_gain_38 ⟨by rw [hR]; decide, by rw [hR]; decide⟩) (fun r_11 s_10 h => ?_)
      refine k_istore hC (pc := 41) dX11_gain_41 [(6, .int r_11), (5, .ref (adr X.G a 0 (42 + j_4))), (0, .ref (adr X.G a 0 0)), (1, .int x1), (2, .int x2), (3, .int x3), (4, .int x4)] (by decide) rfl ?_
      refine k_iload hC (pc := 43) dX11_gain_43 0 rfl ?_
      refine k_if_ne hC (pc := 45) 60 dX11_gain_45 (by decide) (fun c_12 => ?_) (fun c_12 => ?_)
      · have h := h.1 c_12
        refine k_ldc2 hC (pc := 60) dX11_gain_60 cn_RX11_252 ?_
        exact k_lret hC (pc := 63) hQ hr dX11_gain_63 h
      · have h := h.2 c_12
        refine k_iload hC (pc := 48) dX11_gain_48 6 rfl ?_
        refine k_aload_n hC (pc := 50) dX11_gain_50 2 rfl ?_
        refine gf_X11_0 hC (pc := 51)  fl_RX11_12 dX11_gain_51 ?_
        refine gf_X0_4 hC (pc := 54)  fl_RX11_155 dX11_gain_54 ?_
        refine k_icmp_eq hC (pc := 57) 64 dX11_gain_57 (by decide) (fun c_13 => ?_) (fun c_13 => ?_)
        · have h := h.1 c_13
          refine k_aload_n hC (pc := 64) dX11_gain_64 2 rfl ?_
          refine gf_X11_12 hC (pc := 65)  fl_RX11_65 dX11_gain_65 ?_
          refine k_aload_n hC (pc := 68) dX11_gain_68 2 rfl ?_
          refine gf_X11_0 hC (pc := 69)  fl_RX11_12 dX11_gain_69 ?_
          refine k_aload hC (pc := 72) dX11_gain_72 1 rfl ?_
          refine k_iload_n hC (pc := 74) dX11_gain_74 5 rfl ?_
          refine k_cl (rn_V hC (pc := 75) (As := [.ref (adr X.G a 0 1), .ref (adr X.G a 0 (42 + j_4)), .int x3]) (rest := []) ca_X5_gainBy ml_RX11_318 im_X5_gainBy se_X5_gainBy (fx_in f0_34) (ob0_34 _ _ _ _ _) rfl rfl (ct_X5_gainBy j_4 x3 h) (by rw [hR]; exact ⟨rfl, rfl, by decide, by decide⟩) rfl (Nat.le_of_ble_eq_true rfl) dX11_gain_75 ⟨by rw [hR]; decide, by rw [hR]; decide⟩) (fun r_15 s_14 h => ?_)
          exact k_lret hC (pc := 78) hQ hr dX11_gain_78 h
        · have h := h.2 c_13
          refine k_ldc2 hC (pc := 60) dX11_gain_60 cn_RX11_252 ?_
          exact k_lret hC (pc := 63) hQ hr dX11_gain_63 h
    · have h := h.2 c_7
      refine k_ldc2 hC (pc := 24) dX11_gain_24 cn_RX11_252 ?_
      exact k_lret hC (pc := 27) hQ hr dX11_gain_27 h
theorem ct_X11_gain {l : Launch} {G : Gx} {a : Ax} {s : Sx} {N : Nat} {post : Int64 → Sx → Prop} (x1 : Int32) (x2 : Int32) (x3 : Int32) (x4 : Int32) (h : w_X11_gain N x1 x2 x3 x4 s post) : Met l yX11_gain (Cond.code yX11_gain cX11_gain 7 (some .long) :: gw) { frames := 4, cells := 0, slots := 0, locals := 94 } (va_Pc [.ref (adr G a 0 0), .int x1, .int x2, .int x3, .int x4] (fun U => FU G a s U)) (Ql G a post) 0 0 (bs_ G) := met_of (plainFor_of_name (by decide)) (Nat.le_of_ble_eq_true rfl) rfl (fun X hC hl hR hQ hr hG hn => by subst hG; exact b_X11_gain hC hR hQ hr hn s x1 x2 x3 x4 h)
theorem ca_X11_gain : Ca yX11_gain cX11_gain 7 (some .long) 4 := ⟨cd_X11_gain, ii_RX11, by decide, by decide, by decide +kernel⟩
def w_X11_go (N : Nat) (s : Sx) (post : Int32 → Sx → Prop) : Prop := w_X5_findBestMove N s (fun r_2 s_1 => (¬ r_2 = 0 → w_X5_moveCamps N s_1 (fun s_4 => post 1 s_4)) ∧ (¬ (¬ r_2 = 0) → post ((-3)) s_1))
set_option maxHeartbeats 4000000 in
theorem b_X11_go {X : Kx} {a : Ax} {N : Nat} {post : Int32 → Sx → Prop} (hC : Cx X cX11_go 1 RX11) (hR : X.R = { frames := 6, cells := 0, slots := 0, locals := 138 }) (hQ : X.Q = MQ X.below (Qi X.G a post) X.av X.s 0 0 (bs_ X.G)) (hr : X.meth.sig.returnType = (some .int)) (hn : X.meth.name = "go") (s : Sx) (h : w_X11_go N s post) : wk X a s 1 0 [(0, .ref (adr X.G a 0 0))] [] 0 0 := by
  unfold w_X11_go at h
  refine k_aload_n hC (pc := 0) dX11_go_0 0 rfl ?_
  refine gf_X11_12 hC (pc := 1)  fl_RX11_65 dX11_go_1 ?_
  refine k_aload_n hC (pc := 4) dX11_go_4 0 rfl ?_
  refine gf_X11_0 hC (pc := 5)  fl_RX11_12 dX11_go_5 ?_
  refine k_ci (rn_V hC (pc := 8) (As := [.ref (adr X.G a 0 1)]) (rest := []) ca_X5_findBestMove ml_RX11_306 im_X5_findBestMove se_X5_findBestMove (fx_in f0_34) (ob0_34 _ _ _ _ _) rfl rfl (ct_X5_findBestMove h) (by rw [hR]; exact ⟨rfl, rfl, by decide, by decide⟩) rfl (Nat.le_of_ble_eq_true rfl) dX11_go_8 ⟨by rw [hR]; decide, by rw [hR]; decide⟩) (fun r_2 s_1 h => ?_)
  refine k_if_ne hC (pc := 11) 17 dX11_go_11 (by decide) (fun c_3 => ?_) (fun c_3 => ?_)
  · have h := h.1 c_3
    refine k_aload_n hC (pc := 17) dX11_go_17 0 rfl ?_
    refine gf_X11_12 hC (pc := 18)  fl_RX11_65 dX11_go_18 ?_
    refine k_aload_n hC (pc := 21) dX11_go_21 0 rfl ?_
    refine gf_X11_0 hC (pc := 22)  fl_RX11_12 dX11_go_22 ?_
    refine k_cv (rn_V hC (pc := 25) (As := [.ref (adr X.G a 0 1)]) (rest := []) ca_X5_moveCamps ml_RX11_322 im_X5_moveCamps se_X5_moveCamps (fx_in f0_34) (ob0_34 _ _ _ _ _) rfl rfl (ct_X5_moveCamps h) (by rw [hR]; exact ⟨rfl, rfl, by decide, by decide⟩) rfl (Nat.le_of_ble_eq_true rfl) dX11_go_25 ⟨by rw [hR]; decide, by rw [hR]; decide⟩) (fun s_4 h => ?_)
    refine k_iconst hC (pc := 28) (v := 1) dX11_go_28 ic_1 ?_
    exact k_iret hC (pc := 29) hQ hr dX11_go_29 h
  · have h := h.2 c_3
    refine k_bipush hC (pc := 14) (v := (-3)) dX11_go_14 bp_m3 ?_
    exact k_iret hC (pc := 16) hQ hr dX11_go_16 h
theorem ct_X11_go {l : Launch} {G : Gx} {a : Ax} {s : Sx} {N : Nat} {post : Int32 → Sx → Prop} (h : w_X11_go N s post) : Met l yX11_go (Cond.code yX11_go cX11_go 1 (some .int) :: gw) { frames := 6, cells := 0, slots := 0, locals := 138 } (va_Pc [.ref (adr G a 0 0)] (fun U => FU G a s U)) (Qi G a post) 0 0 (bs_ G) := met_of (plainFor_of_name (by decide)) (Nat.le_of_ble_eq_true rfl) rfl (fun X hC hl hR hQ hr hG hn => by subst hG; exact b_X11_go hC hR hQ hr hn s h)
theorem ca_X11_go : Ca yX11_go cX11_go 1 (some .int) 0 := ⟨cd_X11_go, ii_RX11, by decide, by decide, by decide +kernel⟩
def w_X11_spot (N : Nat) (x1 : Int32) (x2 : Int32) (s : Sx) (post : Int32 → Sx → Prop) : Prop := w_X0_has N x1 s (fun r_2 s_1 => (¬ r_2 = 0 → (x2 = 0 → vp_in x1 7 ∧ post (s_1.1 0 2 x1.toNatClampNeg) s_1) ∧ (¬ (x2 = 0) → (x2 = 1 → vp_in x1 7 ∧ post (s_1.1 0 3 x1.toNatClampNeg) s_1) ∧ (¬ (x2 = 1) → post ((-2)) s_1))) ∧ (¬ (¬ r_2 = 0) → post ((-1)) s_1))
set_option maxHeartbeats 4000000 in
theorem b_X11_spot {X : Kx} {a : Ax} {N : Nat} {post : Int32 → Sx → Prop} (hC : Cx X cX11_spot 3 RX11) (hR : X.R = { frames := 2, cells := 0, slots := 0, locals := 43 }) (hQ : X.Q = MQ X.below (Qi X.G a post) X.av X.s 0 0 (bs_ X.G)) (hr : X.meth.sig.returnType = (some .int)) (hn : X.meth.name = "spot") (s : Sx) (x1 : Int32) (x2 : Int32) (h : w_X11_spot N x1 x2 s post) : wk X a s 3 0 [(0, .ref (adr X.G a 0 0)), (1, .int x1), (2, .int x2)] [] 0 0 := by
  unfold w_X11_spot at h
  refine k_aload_n hC (pc := 0) dX11_spot_0 0 rfl ?_
  refine gf_X11_0 hC (pc := 1)  fl_RX11_12 dX11_spot_1 ?_
  refine k_iload_n hC (pc := 4) dX11_spot_4 1 rfl ?_
  refine k_ci (rn_V hC (pc := 5) (As := [.int x1]) (rest := []) ca_X0_has ml_RX11_96 im_X0_has se_X0_has (fx_in f0_1) (ob0_1 _ _ _ _ _) rfl rfl (ct_X0_has x1 h) (by rw [hR]; exact ⟨rfl, rfl, by decide, by decide⟩) rfl (Nat.le_of_ble_eq_true rfl) dX11_spot_5 ⟨by rw [hR]; decide, by rw [hR]; decide⟩) (fun r_2 s_1 h => ?_)
  refine k_if_ne hC (pc := 8) 13 dX11_spot_8 (by decide) (fun c_3 => ?_) (fun c_3 => ?_)
  · have h := h.1 c_3
    refine k_iload_n hC (pc := 13) dX11_spot_13 2 rfl ?_
    by_cases c_5 : x2 = 0
    · have h := h.1 c_5
      refine k_ls hC (pc := 14) (x := x2) 40 dX11_spot_14 (by decide) (by rw [c_5]) (by decide) ?_
      refine k_aload_n hC (pc := 40) dX11_spot_40 0 rfl ?_
      refine gf_X11_0 hC (pc := 41)  fl_RX11_12 dX11_spot_41 ?_
      refine gf_X0_0 hC (pc := 44)  fl_RX11_326 dX11_spot_44 ?_
      refine k_iload_n hC (pc := 47) dX11_spot_47 1 rfl ?_
      obtain ⟨c_4, h⟩ := h
      refine r_iald hC (pc := 48) ra0_2 c_4 dX11_spot_48 ?_
      exact k_iret hC (pc := 49) hQ hr dX11_spot_49 h
    · have h := h.2 c_5
      by_cases c_7 : x2 = 1
      · have h := h.1 c_7
        refine k_ls hC (pc := 14) (x := x2) 50 dX11_spot_14 (by decide) (by rw [c_7]) (by decide) ?_
        refine k_aload_n hC (pc := 50) dX11_spot_50 0 rfl ?_
        refine gf_X11_0 hC (pc := 51)  fl_RX11_12 dX11_spot_51 ?_
        refine gf_X0_1 hC (pc := 54)  fl_RX11_329 dX11_spot_54 ?_
        refine k_iload_n hC (pc := 57) dX11_spot_57 1 rfl ?_
        obtain ⟨c_6, h⟩ := h
        refine r_iald hC (pc := 58) ra0_3 c_6 dX11_spot_58 ?_
        exact k_iret hC (pc := 59) hQ hr dX11_spot_59 h
      · have h := h.2 c_7
        refine k_ls hC (pc := 14) (x := x2) 60 dX11_spot_14 (by decide) (ls_outG c_5 c_7) (by decide) ?_
        refine k_bipush hC (pc := 60) (v := (-2)) dX11_spot_60 bp_m2 ?_
        exact k_iret hC (pc := 62) hQ hr dX11_spot_62 h
  · have h := h.2 c_3
    refine k_iconst hC (pc := 11) (v := (-1)) dX11_spot_11 ic_m1 ?_
    exact k_iret hC (pc := 12) hQ hr dX11_spot_12 h
theorem ct_X11_spot {l : Launch} {G : Gx} {a : Ax} {s : Sx} {N : Nat} {post : Int32 → Sx → Prop} (x1 : Int32) (x2 : Int32) (h : w_X11_spot N x1 x2 s post) : Met l yX11_spot (Cond.code yX11_spot cX11_spot 3 (some .int) :: gw) { frames := 2, cells := 0, slots := 0, locals := 43 } (va_Pc [.ref (adr G a 0 0), .int x1, .int x2] (fun U => FU G a s U)) (Qi G a post) 0 0 (bs_ G) := met_of (plainFor_of_name (by decide)) (Nat.le_of_ble_eq_true rfl) rfl (fun X hC hl hR hQ hr hG hn => by subst hG; exact b_X11_spot hC hR hQ hr hn s x1 x2 h)
theorem ca_X11_spot : Ca yX11_spot cX11_spot 3 (some .int) 2 := ⟨cd_X11_spot, ii_RX11, by decide, by decide, by decide +kernel⟩
def w_X11_sheet (N : Nat) (x1 : Int32) (x2 : Int32) (x3 : Int32) (s : Sx) (post : Int32 → Sx → Prop) : Prop := ∀ s_1, s_1 = setI s 0 0 14 0 → w_X11_sheetAt N x1 s_1 (fun o_3 s_2 => (o_3 = none → post ((-1)) s_2) ∧ (∀ j_4, o_3 = some j_4 → j_4 < 4 ∧ w_X11_isLane N x2 s_2 (fun r_6 s_5 => (r_6 = 0 → post ((-2)) s_5) ∧ (¬ (r_6 = 0) → (x3 ≤ 60 → (0 ≤ x3 → w_X7_renew N j_4 x2 x3 s_5 (fun s_10 => post 1 s_10)) ∧ (¬ (0 ≤ x3) → w_X11_noteFault N 4 s_5 (fun r_12 s_11 => post r_12 s_11))) ∧ (¬ (x3 ≤ 60) → post ((-2)) s_5)))))
set_option maxHeartbeats 4000000 in
theorem b_X11_sheet {X : Kx} {a : Ax} {N : Nat} {post : Int32 → Sx → Prop} (hC : Cx X cX11_sheet 5 RX11) (hR : X.R = { frames := 2, cells := 0, slots := 0, locals := 45 }) (hQ : X.Q = MQ X.below (Qi X.G a post) X.av X.s 0 0 (bs_ X.G)) (hr : X.meth.sig.returnType = (some .int)) (hn : X.meth.name = "sheet") (s : Sx) (x1 : Int32) (x2 : Int32) (x3 : Int32) (h : w_X11_sheet N x1 x2 x3 s post) : wk X a s 5 0 [(0, .ref (adr X.G a 0 0)), (1, .int x1), (2, .int x2), (3, .int x3)] [] 0 0 := by
  unfold w_X11_sheet at h
  refine k_aload_n hC (pc := 0) dX11_sheet_0 0 rfl ?_
  refine k_iconst hC (pc := 1) (v := 0) dX11_sheet_1 ic_0 ?_
  refine pf_X11_14 hC (pc := 2)  fl_RX11_136 dX11_sheet_2 (fun s_1 h_s_1 => ?_)
  have h := h s_1 h_s_1
  refine k_aload_n hC (pc := 5) dX11_sheet_5 0 rfl ?_
  refine k_iload_n hC (pc := 6) dX11_sheet_6 1 rfl ?_
  refine k_cq (k := 0) (off := 42) (rn_V hC (pc := 7) (As := [.int x1]) (rest := []) ca_X11_sheetAt ml_RX11_139 im_X11_sheetAt se_X11_sheetAt (fx_in f0_0) (ob0_0 _ _ _ _ _) rfl rfl (ct_X11_sheetAt x1 h) (by rw [hR]; exact ⟨rfl, rfl, by decide, by decide⟩) rfl (Nat.le_of_ble_eq_true rfl) dX11_sheet_7 ⟨by rw [hR]; decide, by rw [hR]; decide⟩) (fun s_2 h => ?_) (fun j_4 s_2 h => ?_)
  · have h := h.1 rfl
    refine k_astoreN hC (pc := 10) dX11_sheet_10 [(4, .null), (0, .ref (adr X.G a 0 0)), (1, .int x1), (2, .int x2), (3, .int x3)] (by decide) rfl ?_
    refine k_aloadN hC (pc := 12) dX11_sheet_12 0 rfl ?_
    refine k_ifnonnullN hC (pc := 14) dX11_sheet_14 ?_
    refine k_iconst hC (pc := 17) (v := (-1)) dX11_sheet_17 ic_m1 ?_
    exact k_iret hC (pc := 18) hQ hr dX11_sheet_18 h
  · have h := h.2 j_4 rfl
    obtain ⟨hj_4, h⟩ := h
    refine k_astore hC (pc := 10) dX11_sheet_10 [(4, .ref (adr X.G a 0 (42 + j_4))), (0, .ref (adr X.G a 0 0)), (1, .int x1), (2, .int x2), (3, .int x3)] (by decide) rfl ?_
    refine k_aload hC (pc := 12) dX11_sheet_12 0 rfl ?_
    refine k_ifnonnull hC (pc := 14) 19 dX11_sheet_14 (by decide) ?_
    refine k_iload_n hC (pc := 19) dX11_sheet_19 3 rfl ?_
    refine k_ci (rn_S hC (pc := 20) (As := [.int x2]) (rest := []) ca_X11_isLane ml_RX11_143 sm_X11_isLane (ct_X11_isLane x2 h) (by rw [hR]; exact ⟨rfl, rfl, by decide, by decide⟩) rfl (Nat.le_of_ble_eq_true rfl) dX11_sheet_20 ⟨by rw [hR]; decide, by rw [hR]; decide⟩) (fun r_6 s_5 h => ?_)
    refine k_if_eq hC (pc := 23) 32 dX11_sheet_23 (by decide) (fun c_7 => ?_) (fun c_7 => ?_)
    · have h := h.1 c_7
      refine k_bipush hC (pc := 32) (v := (-2)) dX11_sheet_32 bp_m2 ?_
      exact k_iret hC (pc := 34) hQ hr dX11_sheet_34 h
    · have h := h.2 c_7
      refine k_iload_n hC (pc := 26) dX11_sheet_26 4 rfl ?_
      refine k_bipush hC (pc := 27) (v := 60) dX11_sheet_27 bp_60 ?_
      refine k_icmp_le hC (pc := 29) 35 dX11_sheet_29 (by decide) (fun c_8 => ?_) (fun c_8 => ?_)
      · have h := h.1 c_8
        refine k_iload_n hC (pc := 35) dX11_sheet_35 4 rfl ?_
        refine k_if_ge hC (pc := 36) 45 dX11_sheet_36 (by decide) (fun c_9 => ?_) (fun c_9 => ?_)
        · have h := h.1 c_9
          refine k_aload hC (pc := 45) dX11_sheet_45 0 rfl ?_
          refine k_iload_n hC (pc := 47) dX11_sheet_47 3 rfl ?_
          refine k_iload_n hC (pc := 48) dX11_sheet_48 4 rfl ?_
          refine k_cv (rn_V hC (pc := 49) (As := [.int x2, .int x3]) (rest := []) ca_X7_renew ml_RX11_332 im_X7_renew se_X7_renew (fx_in (sh_f hj_4)) (sh_o hj_4 _ _ _ _ _) rfl rfl (ct_X7_renew j_4 x2 x3 h) (by rw [hR]; exact ⟨rfl, rfl, by decide, by decide⟩) rfl (Nat.le_of_ble_eq_true rfl) dX11_sheet_49 ⟨by rw [hR]; decide, by rw [hR]; decide⟩) (fun s_10 h => ?_)
          refine k_iconst hC (pc := 52) (v := 1) dX11_sheet_52 ic_1 ?_
          exact k_iret hC (pc := 53) hQ hr dX11_sheet_53 h
        · have h := h.2 c_9
          refine k_aload_n hC (pc := 39) dX11_sheet_39 1 rfl ?_
          refine k_iconst hC (pc := 40) (v := 4) dX11_sheet_40 ic_4 ?_
          refine k_ci (rn_V hC (pc := 41) (As := [.int 4]) (rest := []) ca_X11_noteFault ml_RX11_149 im_X11_noteFault se_X11_noteFault (fx_in f0_0) (ob0_0 _ _ _ _ _) rfl rfl (ct_X11_noteFault 4 h) (by rw [hR]; exact ⟨rfl, rfl, by decide, by decide⟩) rfl (Nat.le_of_ble_eq_true rfl) dX11_sheet_41 ⟨by rw [hR]; decide, by rw [hR]; decide⟩) (fun r_12 s_11 h => ?_)
          exact k_iret hC (pc := 44) hQ hr dX11_sheet_44 h
      · have h := h.2 c_8
        refine k_bipush hC (pc := 32) (v := (-2)) dX11_sheet_32 bp_m2 ?_
        exact k_iret hC (pc := 34) hQ hr dX11_sheet_34 h
theorem ct_X11_sheet {l : Launch} {G : Gx} {a : Ax} {s : Sx} {N : Nat} {post : Int32 → Sx → Prop} (x1 : Int32) (x2 : Int32) (x3 : Int32) (h : w_X11_sheet N x1 x2 x3 s post) : Met l yX11_sheet (Cond.code yX11_sheet cX11_sheet 5 (some .int) :: gw) { frames := 2, cells := 0, slots := 0, locals := 45 } (va_Pc [.ref (adr G a 0 0), .int x1, .int x2, .int x3] (fun U => FU G a s U)) (Qi G a post) 0 0 (bs_ G) := met_of (plainFor_of_name (by decide)) (Nat.le_of_ble_eq_true rfl) rfl (fun X hC hl hR hQ hr hG hn => by subst hG; exact b_X11_sheet hC hR hQ hr hn s x1 x2 x3 h)
theorem ca_X11_sheet : Ca yX11_sheet cX11_sheet 5 (some .int) 3 := ⟨cd_X11_sheet, ii_RX11, by decide, by decide, by decide +kernel⟩
def w_X11_lose (N : Nat) (x1 : Int32) (s : Sx) (post : Int32 → Sx → Prop) : Prop := w_X11_sheetAt N x1 s (fun o_2 s_1 => (o_2 = none → post ((-1)) s_1) ∧ (∀ j_3, o_2 = some j_3 → j_3 < 4 ∧ w_X7_drop N j_3 s_1 (fun r_5 s_4 => (r_5 = 0 → post 0 s_4) ∧ (¬ (r_5 = 0) → post 1 s_4))))
set_option maxHeartbeats 4000000 in
theorem b_X11_lose {X : Kx} {a : Ax} {N : Nat} {post : Int32 → Sx → Prop} (hC : Cx X cX11_lose 3 RX11) (hR : X.R = { frames := 2, cells := 0, slots := 0, locals := 43 }) (hQ : X.Q = MQ X.below (Qi X.G a post) X.av X.s 0 0 (bs_ X.G)) (hr : X.meth.sig.returnType = (some .int)) (hn : X.meth.name = "lose") (s : Sx) (x1 : Int32) (h : w_X11_lose N x1 s post) : wk X a s 3 0 [(0, .ref (adr X.G a 0 0)), (1, .int x1)] [] 0 0 := by
  unfold w_X11_lose at h
  refine k_aload_n hC (pc := 0) dX11_lose_0 0 rfl ?_
  refine k_iload_n hC (pc := 1) dX11_lose_1 1 rfl ?_
  refine k_cq (k := 0) (off := 42) (rn_V hC (pc := 2) (As := [.int x1]) (rest := []) ca_X11_sheetAt ml_RX11_139 im_X11_sheetAt se_X11_sheetAt (fx_in f0_0) (ob0_0 _ _ _ _ _) rfl rfl (ct_X11_sheetAt x1 h) (by rw [hR]; exact ⟨rfl, rfl, by decide, by decide⟩) rfl (Nat.le_of_ble_eq_true rfl) dX11_lose_2 ⟨by rw [hR]; decide, by rw [hR]; decide⟩) (fun s_1 h => ?_) (fun j_3 s_1 h => ?_)
  · have h := h.1 rfl
    refine k_astore_nN hC (pc := 5) dX11_lose_5 [(2, .null), (0, .ref (adr X.G a 0 0)), (1, .int x1)] (by decide) rfl ?_
    refine k_aload_nN hC (pc := 6) dX11_lose_6 0 rfl ?_
    refine k_ifnonnullN hC (pc := 7) dX11_lose_7 ?_
    refine k_iconst hC (pc := 10) (v := (-1)) dX11_lose_10 ic_m1 ?_
    exact k_iret hC (pc := 11) hQ hr dX11_lose_11 h
  · have h := h.2 j_3 rfl
    obtain ⟨hj_3, h⟩ := h
    refine k_astore_n hC (pc := 5) dX11_lose_5 [(2, .ref (adr X.G a 0 (42 + j_3))), (0, .ref (adr X.G a 0 0)), (1, .int x1)] (by decide) rfl ?_
    refine k_aload_n hC (pc := 6) dX11_lose_6 0 rfl ?_
    refine k_ifnonnull hC (pc := 7) 12 dX11_lose_7 (by decide) ?_
    refine k_aload_n hC (pc := 12) dX11_lose_12 0 rfl ?_
    refine k_ci (rn_V hC (pc := 13) (As := []) (rest := []) ca_X7_drop ml_RX11_336 im_X7_drop se_X7_drop (fx_in (sh_f hj_3)) (sh_o hj_3 _ _ _ _ _) rfl rfl (ct_X7_drop j_3 h) (by rw [hR]; exact ⟨rfl, rfl, by decide, by decide⟩) rfl (Nat.le_of_ble_eq_true rfl) dX11_lose_13 ⟨by rw [hR]; decide, by rw [hR]; decide⟩) (fun r_5 s_4 h => ?_)
    refine k_if_eq hC (pc := 16) 23 dX11_lose_16 (by decide) (fun c_6 => ?_) (fun c_6 => ?_)
    · have h := h.1 c_6
      refine k_iconst hC (pc := 23) (v := 0) dX11_lose_23 ic_0 ?_
      exact k_iret hC (pc := 24) hQ hr dX11_lose_24 h
    · have h := h.2 c_6
      refine k_iconst hC (pc := 19) (v := 1) dX11_lose_19 ic_1 ?_
      refine k_goto hC (pc := 20) 24 dX11_lose_20 (by decide) ?_
      exact k_iret hC (pc := 24) hQ hr dX11_lose_24 h
theorem ct_X11_lose {l : Launch} {G : Gx} {a : Ax} {s : Sx} {N : Nat} {post : Int32 → Sx → Prop} (x1 : Int32) (h : w_X11_lose N x1 s post) : Met l yX11_lose (Cond.code yX11_lose cX11_lose 3 (some .int) :: gw) { frames := 2, cells := 0, slots := 0, locals := 43 } (va_Pc [.ref (adr G a 0 0), .int x1] (fun U => FU G a s U)) (Qi G a post) 0 0 (bs_ G) := met_of (plainFor_of_name (by decide)) (Nat.le_of_ble_eq_true rfl) rfl (fun X hC hl hR hQ hr hG hn => by subst hG; exact b_X11_lose hC hR hQ hr hn s x1 h)
theorem ca_X11_lose : Ca yX11_lose cX11_lose 3 (some .int) 1 := ⟨cd_X11_lose, ii_RX11, by decide, by decide, by decide +kernel⟩
def w_X11_put (N : Nat) (x1 : Int32) (x2 : Int32) (x3 : Int32) (s : Sx) (post : Int32 → Sx → Prop) : Prop := ∀ s_1, s_1 = setI s 0 0 14 0 → w_X11_sheetAt N x1 s_1 (fun o_3 s_2 => (o_3 = none → post ((-1)) s_2) ∧ (∀ j_4, o_3 = some j_4 → j_4 < 4 ∧ w_X7_faultOf N j_4 (s_2.1 0 (42 + j_4) 1) x2 1 s_2 (fun r_6 s_5 => w_X11_noteFault N r_6 s_5 (fun r_8 s_7 => (r_8 = 0 → w_X7_write N j_4 x2 x3 s_7 (fun s_10 => post 1 s_10)) ∧ (¬ (r_8 = 0) → post r_8 s_7)))))
set_option maxHeartbeats 4000000 in
theorem b_X11_put {X : Kx} {a : Ax} {N : Nat} {post : Int32 → Sx → Prop} (hC : Cx X cX11_put 6 RX11) (hR : X.R = { frames := 2, cells := 0, slots := 0, locals := 45 }) (hQ : X.Q = MQ X.below (Qi X.G a post) X.av X.s 0 0 (bs_ X.G)) (hr : X.meth.sig.returnType = (some .int)) (hn : X.meth.name = "put") (s : Sx) (x1 : Int32) (x2 : Int32) (x3 : Int32) (h : w_X11_put N x1 x2 x3 s post) : wk X a s 6 0 [(0, .ref (adr X.G a 0 0)), (1, .int x1), (2, .int x2), (3, .int x3)] [] 0 0 := by
  unfold w_X11_put at h
  refine k_aload_n hC (pc := 0) dX11_put_0 0 rfl ?_
  refine k_iconst hC (pc := 1) (v := 0) dX11_put_1 ic_0 ?_
  refine pf_X11_14 hC (pc := 2)  fl_RX11_136 dX11_put_2 (fun s_1 h_s_1 => ?_)
  have h := h s_1 h_s_1
  refine k_aload_n hC (pc := 5) dX11_put_5 0 rfl ?_
  refine k_iload_n hC (pc := 6) dX11_put_6 1 rfl ?_
  refine k_cq (k := 0) (off := 42) (rn_V hC (pc := 7) (As := [.int x1]) (rest := []) ca_X11_sheetAt ml_RX11_139 im_X11_sheetAt se_X11_sheetAt (fx_in f0_0) (ob0_0 _ _ _ _ _) rfl rfl (ct_X11_sheetAt x1 h) (by rw [hR]; exact ⟨rfl, rfl, by decide, by decide⟩) rfl (Nat.le_of_ble_eq_true rfl) dX11_put_7 ⟨by rw [hR]; decide, by rw [hR]; decide⟩) (fun s_2 h => ?_) (fun j_4 s_2 h => ?_)
  · have h := h.1 rfl
    refine k_astoreN hC (pc := 10) dX11_put_10 [(4, .null), (0, .ref (adr X.G a 0 0)), (1, .int x1), (2, .int x2), (3, .int x3)] (by decide) rfl ?_
    refine k_aloadN hC (pc := 12) dX11_put_12 0 rfl ?_
    refine k_ifnonnullN hC (pc := 14) dX11_put_14 ?_
    refine k_iconst hC (pc := 17) (v := (-1)) dX11_put_17 ic_m1 ?_
    exact k_iret hC (pc := 18) hQ hr dX11_put_18 h
  · have h := h.2 j_4 rfl
    obtain ⟨hj_4, h⟩ := h
    refine k_astore hC (pc := 10) dX11_put_10 [(4, .ref (adr X.G a 0 (42 + j_4))), (0, .ref (adr X.G a 0 0)), (1, .int x1), (2, .int x2), (3, .int x3)] (by decide) rfl ?_
    refine k_aload hC (pc := 12) dX11_put_12 0 rfl ?_
    refine k_ifnonnull hC (pc := 14) 19 dX11_put_14 (by decide) ?_
    refine k_aload_n hC (pc := 19) dX11_put_19 1 rfl ?_
    refine k_aload hC (pc := 20) dX11_put_20 0 rfl ?_
    refine k_aload hC (pc := 22) dX11_put_22 0 rfl ?_
    refine gf_X7_1 hC (pc := 24) hj_4 fl_RX11_339 dX11_put_24 ?_
    refine k_iload_n hC (pc := 27) dX11_put_27 3 rfl ?_
    refine k_iconst hC (pc := 28) (v := 1) dX11_put_28 ic_1 ?_
    refine k_ci (rn_V hC (pc := 29) (As := [.int (s_2.1 0 (42 + j_4) 1), .int x2, .int 1]) (rest := [.ref (adr X.G a 0 0)]) ca_X7_faultOf ml_RX11_146 im_X7_faultOf se_X7_faultOf (fx_in (sh_f hj_4)) (sh_o hj_4 _ _ _ _ _) rfl rfl (ct_X7_faultOf j_4 (s_2.1 0 (42 + j_4) 1) x2 1 h) (by rw [hR]; exact ⟨rfl, rfl, by decide, by decide⟩) rfl (Nat.le_of_ble_eq_true rfl) dX11_put_29 ⟨by rw [hR]; decide, by rw [hR]; decide⟩) (fun r_6 s_5 h => ?_)
    refine k_ci (rn_V hC (pc := 32) (As := [.int r_6]) (rest := []) ca_X11_noteFault ml_RX11_149 im_X11_noteFault se_X11_noteFault (fx_in f0_0) (ob0_0 _ _ _ _ _) rfl rfl (ct_X11_noteFault r_6 h) (by rw [hR]; exact ⟨rfl, rfl, by decide, by decide⟩) rfl (Nat.le_of_ble_eq_true rfl) dX11_put_32 ⟨by rw [hR]; decide, by rw [hR]; decide⟩) (fun r_8 s_7 h => ?_)
    refine k_istore hC (pc := 35) dX11_put_35 [(5, .int r_8), (4, .ref (adr X.G a 0 (42 + j_4))), (0, .ref (adr X.G a 0 0)), (1, .int x1), (2, .int x2), (3, .int x3)] (by decide) rfl ?_
    refine k_iload hC (pc := 37) dX11_put_37 0 rfl ?_
    refine k_if_eq hC (pc := 39) 45 dX11_put_39 (by decide) (fun c_9 => ?_) (fun c_9 => ?_)
    · have h := h.1 c_9
      refine k_aload hC (pc := 45) dX11_put_45 1 rfl ?_
      refine k_iload_n hC (pc := 47) dX11_put_47 4 rfl ?_
      refine k_iload_n hC (pc := 48) dX11_put_48 5 rfl ?_
      refine k_cv (rn_V hC (pc := 49) (As := [.int x2, .int x3]) (rest := []) ca_X7_write ml_RX11_342 im_X7_write se_X7_write (fx_in (sh_f hj_4)) (sh_o hj_4 _ _ _ _ _) rfl rfl (ct_X7_write j_4 x2 x3 h) (by rw [hR]; exact ⟨rfl, rfl, by decide, by decide⟩) rfl (Nat.le_of_ble_eq_true rfl) dX11_put_49 ⟨by rw [hR]; decide, by rw [hR]; decide⟩) (fun s_10 h => ?_)
      refine k_iconst hC (pc := 52) (v := 1) dX11_put_52 ic_1 ?_
      exact k_iret hC (pc := 53) hQ hr dX11_put_53 h
    · have h := h.2 c_9
      refine k_iload hC (pc := 42) dX11_put_42 0 rfl ?_
      exact k_iret hC (pc := 44) hQ hr dX11_put_44 h
theorem ct_X11_put {l : Launch} {G : Gx} {a : Ax} {s : Sx} {N : Nat} {post : Int32 → Sx → Prop} (x1 : Int32) (x2 : Int32) (x3 : Int32) (h : w_X11_put N x1 x2 x3 s post) : Met l yX11_put (Cond.code yX11_put cX11_put 6 (some .int) :: gw) { frames := 2, cells := 0, slots := 0, locals := 45 } (va_Pc [.ref (adr G a 0 0), .int x1, .int x2, .int x3] (fun U => FU G a s U)) (Qi G a post) 0 0 (bs_ G) := met_of (plainFor_of_name (by decide)) (Nat.le_of_ble_eq_true rfl) rfl (fun X hC hl hR hQ hr hG hn => by subst hG; exact b_X11_put hC hR hQ hr hn s x1 x2 x3 h)
theorem ca_X11_put : Ca yX11_put cX11_put 6 (some .int) 3 := ⟨cd_X11_put, ii_RX11, by decide, by decide, by decide +kernel⟩
def w_X11_cell (N : Nat) (x1 : Int32) (x2 : Int32) (x3 : Int32) (s : Sx) (post : Int64 → Sx → Prop) : Prop := ∀ s_1, s_1 = setI s 0 0 14 0 → w_X11_sheetAt N x1 s_1 (fun o_3 s_2 => (o_3 = none → post ((-9223372036854775808)) s_2) ∧ (∀ j_4, o_3 = some j_4 → j_4 < 4 ∧ w_X11_isLane N x3 s_2 (fun r_6 s_5 => (¬ r_6 = 0 → w_X7_faultOf N j_4 x3 x2 1 s_5 (fun r_9 s_8 => w_X11_noteFault N r_9 s_8 (fun r_11 s_10 => (¬ r_11 = 0 → post ((-9223372036854775808)) s_10) ∧ (¬ (¬ r_11 = 0) → w_X7_read N j_4 x2 s_10 (fun r_14 s_13 => post r_14.toInt64 s_13))))) ∧ (¬ (¬ r_6 = 0) → post ((-9223372036854775808)) s_5))))
set_option maxHeartbeats 4000000 in
theorem b_X11_cell {X : Kx} {a : Ax} {N : Nat} {post : Int64 → Sx → Prop} (hC : Cx X cX11_cell 6 RX11) (hR : X.R = { frames := 2, cells := 0, slots := 0, locals := 45 }) (hQ : X.Q = MQ X.below (Ql X.G a post) X.av X.s 0 0 (bs_ X.G)) (hr : X.meth.sig.returnType = (some .long)) (hn : X.meth.name = "cell") (s : Sx) (x1 : Int32) (x2 : Int32) (x3 : Int32) (h : w_X11_cell N x1 x2 x3 s post) : wk X a s 6 0 [(0, .ref (adr X.G a 0 0)), (1, .int x1), (2, .int x2), (3, .int x3)] [] 0 0 := by
  unfold w_X11_cell at h
  refine k_aload_n hC (pc := 0) dX11_cell_0 0 rfl ?_
  refine k_iconst hC (pc := 1) (v := 0) dX11_cell_1 ic_0 ?_
  refine pf_X11_14 hC (pc := 2)  fl_RX11_136 dX11_cell_2 (fun s_1 h_s_1 => ?_)
  have h := h s_1 h_s_1
  refine k_aload_n hC (pc := 5) dX11_cell_5 0 rfl ?_
  refine k_iload_n hC (pc := 6) dX11_cell_6 1 rfl ?_
  refine k_cq (k := 0) (off := 42) (rn_V hC (pc := 7) (As := [.int x1]) (rest := []) ca_X11_sheetAt ml_RX11_139 im_X11_sheetAt se_X11_sheetAt (fx_in f0_0) (ob0_0 _ _ _ _ _) rfl rfl (ct_X11_sheetAt x1 h) (by rw [hR]; exact ⟨rfl, rfl, by decide, by decide⟩) rfl (Nat.le_of_ble_eq_true rfl) dX11_cell_7 ⟨by rw [hR]; decide, by rw [hR]; decide⟩) (fun s_2 h => ?_) (fun j_4 s_2 h => ?_)
  · have h := h.1 rfl
    refine k_astoreN hC (pc := 10) dX11_cell_10 [(4, .null), (0, .ref (adr X.G a 0 0)), (1, .int x1), (2, .int x2), (3, .int x3)] (by decide) rfl ?_
    refine k_aloadN hC (pc := 12) dX11_cell_12 0 rfl ?_
    refine k_ifnullN hC (pc := 14) 24 dX11_cell_14 (by decide) ?_
    refine k_ldc2 hC (pc := 24) dX11_cell_24 cn_RX11_252 ?_
    exact k_lret hC (pc := 27) hQ hr dX11_cell_27 h
  · have h := h.2 j_4 rfl
    obtain ⟨hj_4, h⟩ := h
    refine k_astore hC (pc := 10) dX11_cell_10 [(4, .ref (adr X.G a 0 (42 + j_4))), (0, .ref (adr X.G a 0 0)), (1, .int x1), (2, .int x2), (3, .int x3)] (by decide) rfl ?_
    refine k_aload hC (pc := 12) dX11_cell_12 0 rfl ?_
    refine k_ifnull hC (pc := 14) dX11_cell_14 ?_
    refine k_iload_n hC (pc := 17) dX11_cell_17 4 rfl ?_
    refine k_ci (rn_S hC (pc := 18) (As := [.int x3]) (rest := []) ca_X11_isLane ml_RX11_143 sm_X11_isLane (ct_X11_isLane x3 h) (by rw [hR]; exact ⟨rfl, rfl, by decide, by decide⟩) rfl (Nat.le_of_ble_eq_true rfl) dX11_cell_18 ⟨by rw [hR]; decide, by rw [hR]; decide⟩) (fun r_6 s_5 h => ?_)
    refine k_if_ne hC (pc := 21) 28 dX11_cell_21 (by decide) (fun c_7 => ?_) (fun c_7 => ?_)
    · have h := h.1 c_7
      refine k_aload_n hC (pc := 28) dX11_cell_28 1 rfl ?_
      refine k_aload hC (pc := 29) dX11_cell_29 0 rfl ?_
      refine k_iload_n hC (pc := 31) dX11_cell_31 4 rfl ?_
      refine k_iload_n hC (pc := 32) dX11_cell_32 3 rfl ?_
      refine k_iconst hC (pc := 33) (v := 1) dX11_cell_33 ic_1 ?_
      refine k_ci (rn_V hC (pc := 34) (As := [.int x3, .int x2, .int 1]) (rest := [.ref (adr X.G a 0 0)]) ca_X7_faultOf ml_RX11_146 im_X7_faultOf se_X7_faultOf (fx_in (sh_f hj_4)) (sh_o hj_4 _ _ _ _ _) rfl rfl (ct_X7_faultOf j_4 x3 x2 1 h) (by rw [hR]; exact ⟨rfl, rfl, by decide, by decide⟩) rfl (Nat.le_of_ble_eq_true rfl) dX11_cell_34 ⟨by rw [hR]; decide, by rw [hR]; decide⟩) (fun r_9 s_8 h => ?_)
      refine k_ci (rn_V hC (pc := 37) (As := [.int r_9]) (rest := []) ca_X11_noteFault ml_RX11_149 im_X11_noteFault se_X11_noteFault (fx_in f0_0) (ob0_0 _ _ _ _ _) rfl rfl (ct_X11_noteFault r_9 h) (by rw [hR]; exact ⟨rfl, rfl, by decide, by decide⟩) rfl (Nat.le_of_ble_eq_true rfl) dX11_cell_37 ⟨by rw [hR]; decide, by rw [hR]; decide⟩) (fun r_11 s_10 h => ?_)
      refine k_istore hC (pc := 40) dX11_cell_40 [(5, .int r_11), (4, .ref (adr X.G a 0 (42 + j_4))), (0, .ref (adr X.G a 0 0)), (1, .int x1), (2, .int x2), (3, .int x3)] (by decide) rfl ?_
      refine k_iload hC (pc := 42) dX11_cell_42 0 rfl ?_
      refine k_if_ne hC (pc := 44) 57 dX11_cell_44 (by decide) (fun c_12 => ?_) (fun c_12 => ?_)
      · have h := h.1 c_12
        refine k_ldc2 hC (pc := 57) dX11_cell_57 cn_RX11_252 ?_
        exact k_lret hC (pc := 60) hQ hr dX11_cell_60 h
      · have h := h.2 c_12
        refine k_aload hC (pc := 47) dX11_cell_47 1 rfl ?_
        refine k_iload_n hC (pc := 49) dX11_cell_49 4 rfl ?_
        refine k_ci (rn_V hC (pc := 50) (As := [.int x2]) (rest := []) ca_X7_read ml_RX11_345 im_X7_read se_X7_read (fx_in (sh_f hj_4)) (sh_o hj_4 _ _ _ _ _) rfl rfl (ct_X7_read j_4 x2 h) (by rw [hR]; exact ⟨rfl, rfl, by decide, by decide⟩) rfl (Nat.le_of_ble_eq_true rfl) dX11_cell_50 ⟨by rw [hR]; decide, by rw [hR]; decide⟩) (fun r_14 s_13 h => ?_)
        refine k_i2l hC (pc := 53) dX11_cell_53 ?_
        refine k_goto hC (pc := 54) 60 dX11_cell_54 (by decide) ?_
        exact k_lret hC (pc := 60) hQ hr dX11_cell_60 h
    · have h := h.2 c_7
      refine k_ldc2 hC (pc := 24) dX11_cell_24 cn_RX11_252 ?_
      exact k_lret hC (pc := 27) hQ hr dX11_cell_27 h
theorem ct_X11_cell {l : Launch} {G : Gx} {a : Ax} {s : Sx} {N : Nat} {post : Int64 → Sx → Prop} (x1 : Int32) (x2 : Int32) (x3 : Int32) (h : w_X11_cell N x1 x2 x3 s post) : Met l yX11_cell (Cond.code yX11_cell cX11_cell 6 (some .long) :: gw) { frames := 2, cells := 0, slots := 0, locals := 45 } (va_Pc [.ref (adr G a 0 0), .int x1, .int x2, .int x3] (fun U => FU G a s U)) (Ql G a post) 0 0 (bs_ G) := met_of (plainFor_of_name (by decide)) (Nat.le_of_ble_eq_true rfl) rfl (fun X hC hl hR hQ hr hG hn => by subst hG; exact b_X11_cell hC hR hQ hr hn s x1 x2 x3 h)
theorem ca_X11_cell : Ca yX11_cell cX11_cell 6 (some .long) 3 := ⟨cd_X11_cell, ii_RX11, by decide, by decide, by decide +kernel⟩
def w_X11_postAt (N : Nat) (x1 : Int32) (s : Sx) (post : Option Nat → Sx → Prop) : Prop := w_X11_isWithin N x1 0 29 s (fun r_2 s_1 => (r_2 = 0 → post none s_1) ∧ (¬ (r_2 = 0) → vp_in x1 30 ∧ (¬ x1.toNatClampNeg < s_1.2.2 1 → post none s_1) ∧ (x1.toNatClampNeg < s_1.2.2 1 → post (some x1.toNatClampNeg) s_1)))
set_option maxHeartbeats 4000000 in
theorem b_X11_postAt {X : Kx} {a : Ax} {N : Nat} {post : Option Nat → Sx → Prop} (hC : Cx X cX11_postAt 2 RX11) (hR : X.R = { frames := 1, cells := 0, slots := 0, locals := 22 }) (hQ : X.Q = MQ X.below (Qq X.G a 1 0 post) X.av X.s 0 0 (bs_ X.G)) (hr : X.meth.sig.returnType = (some (.object "CampYears$Post"))) (hn : X.meth.name = "postAt") (s : Sx) (x1 : Int32) (h : w_X11_postAt N x1 s post) : wk X a s 2 0 [(0, .ref (adr X.G a 0 0)), (1, .int x1)] [] 0 0 := by
  unfold w_X11_postAt at h
  refine k_iload_n hC (pc := 0) dX11_postAt_0 1 rfl ?_
  refine k_iconst hC (pc := 1) (v := 0) dX11_postAt_1 ic_0 ?_
  refine k_bipush hC (pc := 2) (v := 29) dX11_postAt_2 bp_29 ?_
  refine k_ci (rn_S hC (pc := 4) (As := [.int x1, .int 0, .int 29]) (rest := []) ca_X11_isWithin ml_RX11_80 sm_X11_isWithin (ct_X11_isWithin x1 0 29 h) (by rw [hR]; exact ⟨rfl, rfl, by decide, by decide⟩) rfl (Nat.le_of_ble_eq_true rfl) dX11_postAt_4 ⟨by rw [hR]; decide, by rw [hR]; decide⟩) (fun r_2 s_1 h => ?_)
  refine k_if_eq hC (pc := 7) 19 dX11_postAt_7 (by decide) (fun c_3 => ?_) (fun c_3 => ?_)
  · have h := h.1 c_3
    refine k_null hC (pc := 19) dX11_postAt_19 ?_
    exact k_nret hC (pc := 20) hQ hr dX11_postAt_20 h
  · have h := h.2 c_3
    refine k_aload_n hC (pc := 10) dX11_postAt_10 0 rfl ?_
    refine gf_X11_2 hC (pc := 11)  fl_RX11_20 dX11_postAt_11 ?_
    refine k_iload_n hC (pc := 14) dX11_postAt_14 1 rfl ?_
    obtain ⟨c_4, h⟩ := h
    refine r_aldP hC (pc := 15) c_4 dX11_postAt_15 (fun c_5 => ?_) (fun c_5 => ?_)
    · have h := h.1 c_5
      refine k_goto hC (pc := 16) 20 dX11_postAt_16 (by decide) ?_
      exact k_nret hC (pc := 20) hQ hr dX11_postAt_20 h
    · have h := h.2 c_5
      refine k_goto hC (pc := 16) 20 dX11_postAt_16 (by decide) ?_
      exact k_rret0 hC (pc := 20) hQ hr dX11_postAt_20 h
theorem ct_X11_postAt {l : Launch} {G : Gx} {a : Ax} {s : Sx} {N : Nat} {post : Option Nat → Sx → Prop} (x1 : Int32) (h : w_X11_postAt N x1 s post) : Met l yX11_postAt (Cond.code yX11_postAt cX11_postAt 2 (some (.object "CampYears$Post")) :: gw) { frames := 1, cells := 0, slots := 0, locals := 22 } (va_Pc [.ref (adr G a 0 0), .int x1] (fun U => FU G a s U)) (Qq G a 1 0 post) 0 0 (bs_ G) := met_of (plainFor_of_name (by decide)) (Nat.le_of_ble_eq_true rfl) rfl (fun X hC hl hR hQ hr hG hn => by subst hG; exact b_X11_postAt hC hR hQ hr hn s x1 h)
theorem ca_X11_postAt : Ca yX11_postAt cX11_postAt 2 (some (.object "CampYears$Post")) 1 := ⟨cd_X11_postAt, ii_RX11, by decide, by decide, by decide +kernel⟩
def w_X11_leaveInTrace (N : Nat) (x1 : Int32) (s : Sx) (post : Sx → Prop) : Prop := ∀ s_1, s_1 = setI s 0 0 4 ((31 * (s.1 0 0 4)) + x1) → post s_1
set_option maxHeartbeats 4000000 in
theorem b_X11_leaveInTrace {X : Kx} {a : Ax} {N : Nat} {post : Sx → Prop} (hC : Cx X cX11_leaveInTrace 2 RX11) (hR : X.R = { frames := 0, cells := 0, slots := 0, locals := 0 }) (hQ : X.Q = MQ X.below (Qv X.G a post) X.av X.s 0 0 (bs_ X.G)) (hr : X.meth.sig.returnType = none) (hn : X.meth.name = "leaveInTrace") (s : Sx) (x1 : Int32) (h : w_X11_leaveInTrace N x1 s post) : wk X a s 2 0 [(0, .ref (adr X.G a 0 0)), (1, .int x1)] [] 0 0 := by
  unfold w_X11_leaveInTrace at h
  refine k_aload_n hC (pc := 0) dX11_leaveInTrace_0 0 rfl ?_
  refine k_bipush hC (pc := 1) (v := 31) dX11_leaveInTrace_1 bp_31 ?_
  refine k_aload_n hC (pc := 3) dX11_leaveInTrace_3 0 rfl ?_
  refine gf_X11_4 hC (pc := 4)  fl_RX11_369 dX11_leaveInTrace_4 ?_
  refine k_imul hC (pc := 7) dX11_leaveInTrace_7 ?_
  refine k_iload_n hC (pc := 8) dX11_leaveInTrace_8 1 rfl ?_
  refine k_iadd hC (pc := 9) dX11_leaveInTrace_9 ?_
  refine pf_X11_4 hC (pc := 10)  fl_RX11_369 dX11_leaveInTrace_10 (fun s_1 h_s_1 => ?_)
  have h := h s_1 h_s_1
  exact k_vret hC (pc := 13) hQ hr dX11_leaveInTrace_13 h
theorem ct_X11_leaveInTrace {l : Launch} {G : Gx} {a : Ax} {s : Sx} {N : Nat} {post : Sx → Prop} (x1 : Int32) (h : w_X11_leaveInTrace N x1 s post) : Met l yX11_leaveInTrace (Cond.code yX11_leaveInTrace cX11_leaveInTrace 2 none :: gw) { frames := 0, cells := 0, slots := 0, locals := 0 } (va_Pc [.ref (adr G a 0 0), .int x1] (fun U => FU G a s U)) (Qv G a post) 0 0 (bs_ G) := met_of (plainFor_of_name (by decide)) (Nat.le_of_ble_eq_true rfl) rfl (fun X hC hl hR hQ hr hG hn => by subst hG; exact b_X11_leaveInTrace hC hR hQ hr hn s x1 h)
theorem ca_X11_leaveInTrace : Ca yX11_leaveInTrace cX11_leaveInTrace 2 none 1 := ⟨cd_X11_leaveInTrace, ii_RX11, by decide, by decide, by decide +kernel⟩
def w_X11_tellingOfPost (N : Nat) (p1 : Nat) (s : Sx) (post : Int32 → Sx → Prop) : Prop := w_X11_leaveInTrace N 1 s (fun s_1 => p1 < s_1.2.2 0 ∧ w_X6_daysIn N p1 0 399 s_1 (fun r_3 s_2 => post r_3 s_2))
set_option maxHeartbeats 4000000 in
theorem b_X11_tellingOfPost {X : Kx} {a : Ax} {N : Nat} {post : Int32 → Sx → Prop} (hC : Cx X cX11_tellingOfPost 2 RX11) (hR : X.R = { frames := 2, cells := 0, slots := 0, locals := 43 }) (hQ : X.Q = MQ X.below (Qi X.G a post) X.av X.s 0 0 (bs_ X.G)) (hr : X.meth.sig.returnType = (some .int)) (hn : X.meth.name = "tellingOfPost") (s : Sx) (p1 : Nat) (h : w_X11_tellingOfPost N p1 s post) : wk X a s 2 0 [(0, .ref (adr X.G a 0 0)), (1, .ref (adr X.G a 1 p1))] [] 0 0 := by
  unfold w_X11_tellingOfPost at h
  refine k_aload_n hC (pc := 0) dX11_tellingOfPost_0 0 rfl ?_
  refine k_iconst hC (pc := 1) (v := 1) dX11_tellingOfPost_1 ic_1 ?_
  refine k_cv (rn_V hC (pc := 2) (As := [.int 1]) (rest := []) ca_X11_leaveInTrace ml_RX11_365 im_X11_leaveInTrace se_X11_leaveInTrace (fx_in f0_0) (ob0_0 _ _ _ _ _) rfl rfl (ct_X11_leaveInTrace 1 h) (by rw [hR]; exact ⟨rfl, rfl, by decide, by decide⟩) rfl (Nat.le_of_ble_eq_true rfl) dX11_tellingOfPost_2 ⟨by rw [hR]; decide, by rw [hR]; decide⟩) (fun s_1 h => ?_)
  refine k_aload_n hC (pc := 5) dX11_tellingOfPost_5 1 rfl ?_
  refine k_iconst hC (pc := 6) (v := 0) dX11_tellingOfPost_6 ic_0 ?_
  refine k_sipush hC (pc := 7) (v := 399) dX11_tellingOfPost_7 sp_399 ?_
  refine k_ci (rn_V hC (pc := 10) (As := [.int 0, .int 399]) (rest := []) ca_X6_daysIn ml_RX11_385 im_X6_daysIn se_X6_daysIn (px_in h.1) (ob1 _ _ _ _ _ _) rfl rfl (ct_X6_daysIn p1 0 399 h.2) (by rw [hR]; exact ⟨rfl, rfl, by decide, by decide⟩) rfl (Nat.le_of_ble_eq_true rfl) dX11_tellingOfPost_10 ⟨by rw [hR]; decide, by rw [hR]; decide⟩) (fun r_3 s_2 h => ?_)
  exact k_iret hC (pc := 13) hQ hr dX11_tellingOfPost_13 h
theorem ct_X11_tellingOfPost {l : Launch} {G : Gx} {a : Ax} {s : Sx} {N : Nat} {post : Int32 → Sx → Prop} (p1 : Nat) (h : w_X11_tellingOfPost N p1 s post) : Met l yX11_tellingOfPost (Cond.code yX11_tellingOfPost cX11_tellingOfPost 2 (some .int) :: gw) { frames := 2, cells := 0, slots := 0, locals := 43 } (va_Pc [.ref (adr G a 0 0), .ref (adr G a 1 p1)] (fun U => FU G a s U)) (Qi G a post) 0 0 (bs_ G) := met_of (plainFor_of_name (by decide)) (Nat.le_of_ble_eq_true rfl) rfl (fun X hC hl hR hQ hr hG hn => by subst hG; exact b_X11_tellingOfPost hC hR hQ hr hn s p1 h)
theorem ca_X11_tellingOfPost : Ca yX11_tellingOfPost cX11_tellingOfPost 2 (some .int) 1 := ⟨cd_X11_tellingOfPost, ii_RX11, by decide, by decide, by decide +kernel⟩
def w_X11_tellingOfLeader (N : Nat) (p1 : Nat) (s : Sx) (post : Int32 → Sx → Prop) : Prop := w_X11_leaveInTrace N 2 s (fun s_1 => w_X11_tellingOfPost N p1 s_1 (fun r_3 s_2 => post (r_3 + 8) s_2))
set_option maxHeartbeats 4000000 in
theorem b_X11_tellingOfLeader {X : Kx} {a : Ax} {N : Nat} {post : Int32 → Sx → Prop} (hC : Cx X cX11_tellingOfLeader 2 RX11) (hR : X.R = { frames := 3, cells := 0, slots := 0, locals := 64 }) (hQ : X.Q = MQ X.below (Qi X.G a post) X.av X.s 0 0 (bs_ X.G)) (hr : X.meth.sig.returnType = (some .int)) (hn : X.meth.name = "tellingOfLeader") (s : Sx) (p1 : Nat) (h : w_X11_tellingOfLeader N p1 s post) : wk X a s 2 0 [(0, .ref (adr X.G a 0 0)), (1, .ref (adr X.G a 1 p1))] [] 0 0 := by
  unfold w_X11_tellingOfLeader at h
  refine k_aload_n hC (pc := 0) dX11_tellingOfLeader_0 0 rfl ?_
  refine k_iconst hC (pc := 1) (v := 2) dX11_tellingOfLeader_1 ic_2 ?_
  refine k_cv (rn_V hC (pc := 2) (As := [.int 2]) (rest := []) ca_X11_leaveInTrace ml_RX11_365 im_X11_leaveInTrace se_X11_leaveInTrace (fx_in f0_0) (ob0_0 _ _ _ _ _) rfl rfl (ct_X11_leaveInTrace 2 h) (by rw [hR]; exact ⟨rfl, rfl, by decide, by decide⟩) rfl (Nat.le_of_ble_eq_true rfl) dX11_tellingOfLeader_2 ⟨by rw [hR]; decide, by rw [hR]; decide⟩) (fun s_1 h => ?_)
  refine k_aload_n hC (pc := 5) dX11_tellingOfLeader_5 0 rfl ?_
  refine k_aload_n hC (pc := 6) dX11_tellingOfLeader_6 1 rfl ?_
  refine k_ci (rn_V hC (pc := 7) (As := [.ref (adr X.G a 1 p1)]) (rest := []) ca_X11_tellingOfPost ml_RX11_362 im_X11_tellingOfPost se_X11_tellingOfPost (fx_in f0_0) (ob0_0 _ _ _ _ _) rfl rfl (ct_X11_tellingOfPost p1 h) (by rw [hR]; exact ⟨rfl, rfl, by decide, by decide⟩) rfl (Nat.le_of_ble_eq_true rfl) dX11_tellingOfLeader_7 ⟨by rw [hR]; decide, by rw [hR]; decide⟩) (fun r_3 s_2 h => ?_)
  refine k_bipush hC (pc := 10) (v := 8) dX11_tellingOfLeader_10 bp_8 ?_
  refine k_iadd hC (pc := 12) dX11_tellingOfLeader_12 ?_
  exact k_iret hC (pc := 13) hQ hr dX11_tellingOfLeader_13 h
theorem ct_X11_tellingOfLeader {l : Launch} {G : Gx} {a : Ax} {s : Sx} {N : Nat} {post : Int32 → Sx → Prop} (p1 : Nat) (h : w_X11_tellingOfLeader N p1 s post) : Met l yX11_tellingOfLeader (Cond.code yX11_tellingOfLeader cX11_tellingOfLeader 2 (some .int) :: gw) { frames := 3, cells := 0, slots := 0, locals := 64 } (va_Pc [.ref (adr G a 0 0), .ref (adr G a 1 p1)] (fun U => FU G a s U)) (Qi G a post) 0 0 (bs_ G) := met_of (plainFor_of_name (by decide)) (Nat.le_of_ble_eq_true rfl) rfl (fun X hC hl hR hQ hr hG hn => by subst hG; exact b_X11_tellingOfLeader hC hR hQ hr hn s p1 h)
theorem ca_X11_tellingOfLeader : Ca yX11_tellingOfLeader cX11_tellingOfLeader 2 (some .int) 1 := ⟨cd_X11_tellingOfLeader, ii_RX11, by decide, by decide, by decide +kernel⟩
def w_X11_tellingOfChief (N : Nat) (p1 : Nat) (s : Sx) (post : Int32 → Sx → Prop) : Prop := w_X11_leaveInTrace N 3 s (fun s_1 => w_X11_tellingOfLeader N p1 s_1 (fun r_3 s_2 => w_X11_tellingOfPost N p1 s_2 (fun r_5 s_4 => post (r_3 + r_5) s_4)))
set_option maxHeartbeats 4000000 in
theorem b_X11_tellingOfChief {X : Kx} {a : Ax} {N : Nat} {post : Int32 → Sx → Prop} (hC : Cx X cX11_tellingOfChief 3 RX11) (hR : X.R = { frames := 4, cells := 0, slots := 0, locals := 85 }) (hQ : X.Q = MQ X.below (Qi X.G a post) X.av X.s 0 0 (bs_ X.G)) (hr : X.meth.sig.returnType = (some .int)) (hn : X.meth.name = "tellingOfChief") (s : Sx) (p1 : Nat) (h : w_X11_tellingOfChief N p1 s post) : wk X a s 3 0 [(0, .ref (adr X.G a 0 0)), (1, .ref (adr X.G a 1 p1))] [] 0 0 := by
  unfold w_X11_tellingOfChief at h
  refine k_aload_n hC (pc := 0) dX11_tellingOfChief_0 0 rfl ?_
  refine k_iconst hC (pc := 1) (v := 3) dX11_tellingOfChief_1 ic_3 ?_
  refine k_cv (rn_V hC (pc := 2) (As := [.int 3]) (rest := []) ca_X11_leaveInTrace ml_RX11_365 im_X11_leaveInTrace se_X11_leaveInTrace (fx_in f0_0) (ob0_0 _ _ _ _ _) rfl rfl (ct_X11_leaveInTrace 3 h) (by rw [hR]; exact ⟨rfl, rfl, by decide, by decide⟩) rfl (Nat.le_of_ble_eq_true rfl) dX11_tellingOfChief_2 ⟨by rw [hR]; decide, by rw [hR]; decide⟩) (fun s_1 h => ?_)
  refine k_aload_n hC (pc := 5) dX11_tellingOfChief_5 0 rfl ?_
  refine k_aload_n hC (pc := 6) dX11_tellingOfChief_6 1 rfl ?_
  refine k_ci (rn_V hC (pc := 7) (As := [.ref (adr X.G a 1 p1)]) (rest := []) ca_X11_tellingOfLeader ml_RX11_359 im_X11_tellingOfLeader se_X11_tellingOfLeader (fx_in f0_0) (ob0_0 _ _ _ _ _) rfl rfl (ct_X11_tellingOfLeader p1 h) (by rw [hR]; exact ⟨rfl, rfl, by decide, by decide⟩) rfl (Nat.le_of_ble_eq_true rfl) dX11_tellingOfChief_7 ⟨by rw [hR]; decide, by rw [hR]; decide⟩) (fun r_3 s_2 h => ?_)
  refine k_istore_n hC (pc := 10) dX11_tellingOfChief_10 [(2, .int r_3), (0, .ref (adr X.G a 0 0)), (1, .ref (adr X.G a 1 p1))] (by decide) rfl ?_
  refine k_iload_n hC (pc := 11) dX11_tellingOfChief_11 0 rfl ?_
  refine k_aload_n hC (pc := 12) dX11_tellingOfChief_12 1 rfl ?_
  refine k_aload_n hC (pc := 13) dX11_tellingOfChief_13 2 rfl ?_
  refine k_ci (rn_V hC (pc := 14) (As := [.ref (adr X.G a 1 p1)]) (rest := [.int r_3]) ca_X11_tellingOfPost ml_RX11_362 im_X11_tellingOfPost se_X11_tellingOfPost (fx_in f0_0) (ob0_0 _ _ _ _ _) rfl rfl (ct_X11_tellingOfPost p1 h) (by rw [hR]; exact ⟨rfl, rfl, by decide, by decide⟩) rfl (Nat.le_of_ble_eq_true rfl) dX11_tellingOfChief_14 ⟨by rw [hR]; decide, by rw [hR]; decide⟩) (fun r_5 s_4 h => ?_)
  refine k_iadd hC (pc := 17) dX11_tellingOfChief_17 ?_
  exact k_iret hC (pc := 18) hQ hr dX11_tellingOfChief_18 h
theorem ct_X11_tellingOfChief {l : Launch} {G : Gx} {a : Ax} {s : Sx} {N : Nat} {post : Int32 → Sx → Prop} (p1 : Nat) (h : w_X11_tellingOfChief N p1 s post) : Met l yX11_tellingOfChief (Cond.code yX11_tellingOfChief cX11_tellingOfChief 3 (some .int) :: gw) { frames := 4, cells := 0, slots := 0, locals := 85 } (va_Pc [.ref (adr G a 0 0), .ref (adr G a 1 p1)] (fun U => FU G a s U)) (Qi G a post) 0 0 (bs_ G) := met_of (plainFor_of_name (by decide)) (Nat.le_of_ble_eq_true rfl) rfl (fun X hC hl hR hQ hr hG hn => by subst hG; exact b_X11_tellingOfChief hC hR hQ hr hn s p1 h)
theorem ca_X11_tellingOfChief : Ca yX11_tellingOfChief cX11_tellingOfChief 3 (some .int) 1 := ⟨cd_X11_tellingOfChief, ii_RX11, by decide, by decide, by decide +kernel⟩
def w_X11_tell (N : Nat) (x1 : Int32) (s : Sx) (post : Int32 → Sx → Prop) : Prop := w_X11_postAt N x1 s (fun o_2 s_1 => (o_2 = none → post ((-1)) s_1) ∧ (∀ j_3, o_2 = some j_3 → j_3 < s_1.2.2 0 ∧ ∀ x_5 : Int32, x_5 = s_1.1 1 j_3 0 → (x_5 = 1 → w_X11_tellingOfLeader N j_3 s_1 (fun r_7 s_6 => post r_7 s_6)) ∧ (¬ (x_5 = 1) → (x_5 = 2 → w_X11_tellingOfChief N j_3 s_1 (fun r_10 s_9 => post r_10 s_9)) ∧ (¬ (x_5 = 2) → w_X11_tellingOfPost N j_3 s_1 (fun r_13 s_12 => post r_13 s_12)))))
set_option maxHeartbeats 4000000 in
theorem b_X11_tell {X : Kx} {a : Ax} {N : Nat} {post : Int32 → Sx → Prop} (hC : Cx X cX11_tell 3 RX11) (hR : X.R = { frames := 5, cells := 0, slots := 0, locals := 107 }) (hQ : X.Q = MQ X.below (Qi X.G a post) X.av X.s 0 0 (bs_ X.G)) (hr : X.meth.sig.returnType = (some .int)) (hn : X.meth.name = "tell") (s : Sx) (x1 : Int32) (h : w_X11_tell N x1 s post) : wk X a s 3 0 [(0, .ref (adr X.G a 0 0)), (1, .int x1)] [] 0 0 := by
  unfold w_X11_tell at h
  refine k_aload_n hC (pc := 0) dX11_tell_0 0 rfl ?_
  refine k_iload_n hC (pc := 1) dX11_tell_1 1 rfl ?_
  refine k_cq (k := 1) (off := 0) (rn_V hC (pc := 2) (As := [.int x1]) (rest := []) ca_X11_postAt ml_RX11_348 im_X11_postAt se_X11_postAt (fx_in f0_0) (ob0_0 _ _ _ _ _) rfl rfl (ct_X11_postAt x1 h) (by rw [hR]; exact ⟨rfl, rfl, by decide, by decide⟩) rfl (Nat.le_of_ble_eq_true rfl) dX11_tell_2 ⟨by rw [hR]; decide, by rw [hR]; decide⟩) (fun s_1 h => ?_) (fun j_3 s_1 h => ?_)
  · have h := h.1 rfl
    refine k_astore_nN hC (pc := 5) dX11_tell_5 [(2, .null), (0, .ref (adr X.G a 0 0)), (1, .int x1)] (by decide) rfl ?_
    refine k_aload_nN hC (pc := 6) dX11_tell_6 0 rfl ?_
    refine k_ifnonnullN hC (pc := 7) dX11_tell_7 ?_
    refine k_iconst hC (pc := 10) (v := (-1)) dX11_tell_10 ic_m1 ?_
    exact k_iret hC (pc := 11) hQ hr dX11_tell_11 h
  · have h := h.2 j_3 rfl
    refine k_eqz ?_
    refine k_astore_n hC (pc := 5) dX11_tell_5 [(2, .ref (adr X.G a 1 j_3)), (0, .ref (adr X.G a 0 0)), (1, .int x1)] (by decide) rfl ?_
    refine k_aload_n hC (pc := 6) dX11_tell_6 0 rfl ?_
    refine k_ifnonnull hC (pc := 7) 12 dX11_tell_7 (by decide) ?_
    refine k_aload_n hC (pc := 12) dX11_tell_12 0 rfl ?_
    obtain ⟨c_4, h⟩ := h
    refine gf_X6_0 hC (pc := 13) c_4 fl_RX11_352 dX11_tell_13 ?_
    refine k_topi (fun x_5 h_x_5 => ?_)
    have h := h x_5 h_x_5
    by_cases c_8 : x_5 = 1
    · have h := h.1 c_8
      refine k_ls hC (pc := 16) (x := x_5) 50 dX11_tell_16 (by decide) (by rw [c_8]) (by decide) ?_
      refine k_aload_n hC (pc := 50) dX11_tell_50 1 rfl ?_
      refine k_aload_n hC (pc := 51) dX11_tell_51 0 rfl ?_
      refine k_ci (rn_V hC (pc := 52) (As := [.ref (adr X.G a 1 j_3)]) (rest := []) ca_X11_tellingOfLeader ml_RX11_359 im_X11_tellingOfLeader se_X11_tellingOfLeader (fx_in f0_0) (ob0_0 _ _ _ _ _) rfl rfl (ct_X11_tellingOfLeader j_3 h) (by rw [hR]; exact ⟨rfl, rfl, by decide, by decide⟩) rfl (Nat.le_of_ble_eq_true rfl) dX11_tell_52 ⟨by rw [hR]; decide, by rw [hR]; decide⟩) (fun r_7 s_6 h => ?_)
      exact k_iret hC (pc := 55) hQ hr dX11_tell_55 h
    · have h := h.2 c_8
      by_cases c_11 : x_5 = 2
      · have h := h.1 c_11
        refine k_ls hC (pc := 16) (x := x_5) 44 dX11_tell_16 (by decide) (by rw [c_11]) (by decide) ?_
        refine k_aload_n hC (pc := 44) dX11_tell_44 1 rfl ?_
        refine k_aload_n hC (pc := 45) dX11_tell_45 0 rfl ?_
        refine k_ci (rn_V hC (pc := 46) (As := [.ref (adr X.G a 1 j_3)]) (rest := []) ca_X11_tellingOfChief ml_RX11_355 im_X11_tellingOfChief se_X11_tellingOfChief (fx_in f0_0) (ob0_0 _ _ _ _ _) rfl rfl (ct_X11_tellingOfChief j_3 h) (by rw [hR]; exact ⟨rfl, rfl, by decide, by decide⟩) rfl (Nat.le_of_ble_eq_true rfl) dX11_tell_46 ⟨by rw [hR]; decide, by rw [hR]; decide⟩) (fun r_10 s_9 h => ?_)
        exact k_iret hC (pc := 49) hQ hr dX11_tell_49 h
      · have h := h.2 c_11
        refine k_ls hC (pc := 16) (x := x_5) 56 dX11_tell_16 (by decide) (ls_outG c_8 c_11) (by decide) ?_
        refine k_aload_n hC (pc := 56) dX11_tell_56 1 rfl ?_
        refine k_aload_n hC (pc := 57) dX11_tell_57 0 rfl ?_
        refine k_ci (rn_V hC (pc := 58) (As := [.ref (adr X.G a 1 j_3)]) (rest := []) ca_X11_tellingOfPost ml_RX11_362 im_X11_tellingOfPost se_X11_tellingOfPost (fx_in f0_0) (ob0_0 _ _ _ _ _) rfl rfl (ct_X11_tellingOfPost j_3 h) (by rw [hR]; exact ⟨rfl, rfl, by decide, by decide⟩) rfl (Nat.le_of_ble_eq_true rfl) dX11_tell_58 ⟨by rw [hR]; decide, by rw [hR]; decide⟩) (fun r_13 s_12 h => ?_)
        exact k_iret hC (pc := 61) hQ hr dX11_tell_61 h
theorem ct_X11_tell {l : Launch} {G : Gx} {a : Ax} {s : Sx} {N : Nat} {post : Int32 → Sx → Prop} (x1 : Int32) (h : w_X11_tell N x1 s post) : Met l yX11_tell (Cond.code yX11_tell cX11_tell 3 (some .int) :: gw) { frames := 5, cells := 0, slots := 0, locals := 107 } (va_Pc [.ref (adr G a 0 0), .int x1] (fun U => FU G a s U)) (Qi G a post) 0 0 (bs_ G) := met_of (plainFor_of_name (by decide)) (Nat.le_of_ble_eq_true rfl) rfl (fun X hC hl hR hQ hr hG hn => by subst hG; exact b_X11_tell hC hR hQ hr hn s x1 h)
theorem ca_X11_tell : Ca yX11_tell cX11_tell 3 (some .int) 1 := ⟨cd_X11_tell, ii_RX11, by decide, by decide, by decide +kernel⟩
def w_X11_roll (N : Nat) (x1 : Int32) (s : Sx) (post : Int32 → Sx → Prop) : Prop := w_X11_postAt N x1 s (fun o_2 s_1 => (o_2 = none → post ((-1)) s_1) ∧ (∀ j_3, o_2 = some j_3 → j_3 < s_1.2.2 0 ∧ (¬ (s_1.1 1 j_3 0) = 2 → w_X11_leaveInTrace N 4 s_1 (fun s_6 => post x1 s_6)) ∧ (¬ (¬ (s_1.1 1 j_3 0) = 2) → w_X11_leaveInTrace N 5 s_1 (fun s_7 => post 66 s_7))))
set_option maxHeartbeats 4000000 in
theorem b_X11_roll {X : Kx} {a : Ax} {N : Nat} {post : Int32 → Sx → Prop} (hC : Cx X cX11_roll 3 RX11) (hR : X.R = { frames := 2, cells := 0, slots := 0, locals := 43 }) (hQ : X.Q = MQ X.below (Qi X.G a post) X.av X.s 0 0 (bs_ X.G)) (hr : X.meth.sig.returnType = (some .int)) (hn : X.meth.name = "roll") (s : Sx) (x1 : Int32) (h : w_X11_roll N x1 s post) : wk X a s 3 0 [(0, .ref (adr X.G a 0 0)), (1, .int x1)] [] 0 0 := by
  unfold w_X11_roll at h
  refine k_aload_n hC (pc := 0) dX11_roll_0 0 rfl ?_
  refine k_iload_n hC (pc := 1) dX11_roll_1 1 rfl ?_
  refine k_cq (k := 1) (off := 0) (rn_V hC (pc := 2) (As := [.int x1]) (rest := []) ca_X11_postAt ml_RX11_348 im_X11_postAt se_X11_postAt (fx_in f0_0) (ob0_0 _ _ _ _ _) rfl rfl (ct_X11_postAt x1 h) (by rw [hR]; exact ⟨rfl, rfl, by decide, by decide⟩) rfl (Nat.le_of_ble_eq_true rfl) dX11_roll_2 ⟨by rw [hR]; decide, by rw [hR]; decide⟩) (fun s_1 h => ?_) (fun j_3 s_1 h => ?_)
  · have h := h.1 rfl
    refine k_astore_nN hC (pc := 5) dX11_roll_5 [(2, .null), (0, .ref (adr X.G a 0 0)), (1, .int x1)] (by decide) rfl ?_
    refine k_aload_nN hC (pc := 6) dX11_roll_6 0 rfl ?_
    refine k_ifnonnullN hC (pc := 7) dX11_roll_7 ?_
    refine k_iconst hC (pc := 10) (v := (-1)) dX11_roll_10 ic_m1 ?_
    exact k_iret hC (pc := 11) hQ hr dX11_roll_11 h
  · have h := h.2 j_3 rfl
    refine k_eqz ?_
    refine k_astore_n hC (pc := 5) dX11_roll_5 [(2, .ref (adr X.G a 1 j_3)), (0, .ref (adr X.G a 0 0)), (1, .int x1)] (by decide) rfl ?_
    refine k_aload_n hC (pc := 6) dX11_roll_6 0 rfl ?_
    refine k_ifnonnull hC (pc := 7) 12 dX11_roll_7 (by decide) ?_
    refine k_aload_n hC (pc := 12) dX11_roll_12 0 rfl ?_
    obtain ⟨c_4, h⟩ := h
    refine gf_X6_0 hC (pc := 13) c_4 fl_RX11_352 dX11_roll_13 ?_
    refine k_iconst hC (pc := 16) (v := 2) dX11_roll_16 ic_2 ?_
    refine k_icmp_ne hC (pc := 17) 28 dX11_roll_17 (by decide) (fun c_5 => ?_) (fun c_5 => ?_)
    · have h := h.1 c_5
      refine k_aload_n hC (pc := 28) dX11_roll_28 1 rfl ?_
      refine k_iconst hC (pc := 29) (v := 4) dX11_roll_29 ic_4 ?_
      refine k_cv (rn_V hC (pc := 30) (As := [.int 4]) (rest := []) ca_X11_leaveInTrace ml_RX11_365 im_X11_leaveInTrace se_X11_leaveInTrace (fx_in f0_0) (ob0_0 _ _ _ _ _) rfl rfl (ct_X11_leaveInTrace 4 h) (by rw [hR]; exact ⟨rfl, rfl, by decide, by decide⟩) rfl (Nat.le_of_ble_eq_true rfl) dX11_roll_30 ⟨by rw [hR]; decide, by rw [hR]; decide⟩) (fun s_6 h => ?_)
      refine k_iload_n hC (pc := 33) dX11_roll_33 2 rfl ?_
      exact k_iret hC (pc := 34) hQ hr dX11_roll_34 h
    · have h := h.2 c_5
      refine k_aload_n hC (pc := 20) dX11_roll_20 1 rfl ?_
      refine k_iconst hC (pc := 21) (v := 5) dX11_roll_21 ic_5 ?_
      refine k_cv (rn_V hC (pc := 22) (As := [.int 5]) (rest := []) ca_X11_leaveInTrace ml_RX11_365 im_X11_leaveInTrace se_X11_leaveInTrace (fx_in f0_0) (ob0_0 _ _ _ _ _) rfl rfl (ct_X11_leaveInTrace 5 h) (by rw [hR]; exact ⟨rfl, rfl, by decide, by decide⟩) rfl (Nat.le_of_ble_eq_true rfl) dX11_roll_22 ⟨by rw [hR]; decide, by rw [hR]; decide⟩) (fun s_7 h => ?_)
      refine k_bipush hC (pc := 25) (v := 66) dX11_roll_25 bp_66 ?_
      exact k_iret hC (pc := 27) hQ hr dX11_roll_27 h
theorem ct_X11_roll {l : Launch} {G : Gx} {a : Ax} {s : Sx} {N : Nat} {post : Int32 → Sx → Prop} (x1 : Int32) (h : w_X11_roll N x1 s post) : Met l yX11_roll (Cond.code yX11_roll cX11_roll 3 (some .int) :: gw) { frames := 2, cells := 0, slots := 0, locals := 43 } (va_Pc [.ref (adr G a 0 0), .int x1] (fun U => FU G a s U)) (Qi G a post) 0 0 (bs_ G) := met_of (plainFor_of_name (by decide)) (Nat.le_of_ble_eq_true rfl) rfl (fun X hC hl hR hQ hr hG hn => by subst hG; exact b_X11_roll hC hR hQ hr hn s x1 h)
theorem ca_X11_roll : Ca yX11_roll cX11_roll 3 (some .int) 1 := ⟨cd_X11_roll, ii_RX11, by decide, by decide, by decide +kernel⟩
def w_X11_as (N : Nat) (x1 : Int32) (x2 : Int32) (s : Sx) (post : Int32 → Sx → Prop) : Prop := ∀ s_1, s_1 = setI s 0 0 14 0 → w_X11_postAt N x1 s_1 (fun o_3 s_2 => (o_3 = none → post ((-1)) s_2) ∧ (∀ j_4, o_3 = some j_4 → w_X11_isKind N x2 s_2 (fun r_6 s_5 => (¬ r_6 = 0 → j_4 < s_5.2.2 0 ∧ ((s_5.1 1 j_4 0) < x2 → w_X11_noteFault N 2 s_5 (fun r_11 s_10 => post r_11 s_10)) ∧ (¬ ((s_5.1 1 j_4 0) < x2) → post 1 s_5)) ∧ (¬ (¬ r_6 = 0) → post ((-2)) s_5))))
set_option maxHeartbeats 4000000 in
theorem b_X11_as {X : Kx} {a : Ax} {N : Nat} {post : Int32 → Sx → Prop} (hC : Cx X cX11_as 4 RX11) (hR : X.R = { frames := 2, cells := 0, slots := 0, locals := 43 }) (hQ : X.Q = MQ X.below (Qi X.G a post) X.av X.s 0 0 (bs_ X.G)) (hr : X.meth.sig.returnType = (some .int)) (hn : X.meth.name = "as") (s : Sx) (x1 : Int32) (x2 : Int32) (h : w_X11_as N x1 x2 s post) : wk X a s 4 0 [(0, .ref (adr X.G a 0 0)), (1, .int x1), (2, .int x2)] [] 0 0 := by
  unfold w_X11_as at h
  refine k_aload_n hC (pc := 0) dX11_as_0 0 rfl ?_
  refine k_iconst hC (pc := 1) (v := 0) dX11_as_1 ic_0 ?_
  refine pf_X11_14 hC (pc := 2)  fl_RX11_136 dX11_as_2 (fun s_1 h_s_1 => ?_)
  have h := h s_1 h_s_1
  refine k_aload_n hC (pc := 5) dX11_as_5 0 rfl ?_
  refine k_iload_n hC (pc := 6) dX11_as_6 1 rfl ?_
  refine k_cq (k := 1) (off := 0) (rn_V hC (pc := 7) (As := [.int x1]) (rest := []) ca_X11_postAt ml_RX11_348 im_X11_postAt se_X11_postAt (fx_in f0_0) (ob0_0 _ _ _ _ _) rfl rfl (ct_X11_postAt x1 h) (by rw [hR]; exact ⟨rfl, rfl, by decide, by decide⟩) rfl (Nat.le_of_ble_eq_true rfl) dX11_as_7 ⟨by rw [hR]; decide, by rw [hR]; decide⟩) (fun s_2 h => ?_) (fun j_4 s_2 h => ?_)
  · have h := h.1 rfl
    refine k_astore_nN hC (pc := 10) dX11_as_10 [(3, .null), (0, .ref (adr X.G a 0 0)), (1, .int x1), (2, .int x2)] (by decide) rfl ?_
    refine k_aload_nN hC (pc := 11) dX11_as_11 0 rfl ?_
    refine k_ifnonnullN hC (pc := 12) dX11_as_12 ?_
    refine k_iconst hC (pc := 15) (v := (-1)) dX11_as_15 ic_m1 ?_
    exact k_iret hC (pc := 16) hQ hr dX11_as_16 h
  · have h := h.2 j_4 rfl
    refine k_eqz ?_
    refine k_astore_n hC (pc := 10) dX11_as_10 [(3, .ref (adr X.G a 1 j_4)), (0, .ref (adr X.G a 0 0)), (1, .int x1), (2, .int x2)] (by decide) rfl ?_
    refine k_aload_n hC (pc := 11) dX11_as_11 0 rfl ?_
    refine k_ifnonnull hC (pc := 12) 17 dX11_as_12 (by decide) ?_
    refine k_iload_n hC (pc := 17) dX11_as_17 3 rfl ?_
    refine k_ci (rn_S hC (pc := 18) (As := [.int x2]) (rest := []) ca_X11_isKind ml_RX11_99 sm_X11_isKind (ct_X11_isKind x2 h) (by rw [hR]; exact ⟨rfl, rfl, by decide, by decide⟩) rfl (Nat.le_of_ble_eq_true rfl) dX11_as_18 ⟨by rw [hR]; decide, by rw [hR]; decide⟩) (fun r_6 s_5 h => ?_)
    refine k_if_ne hC (pc := 21) 27 dX11_as_21 (by decide) (fun c_7 => ?_) (fun c_7 => ?_)
    · have h := h.1 c_7
      refine k_aload_n hC (pc := 27) dX11_as_27 0 rfl ?_
      obtain ⟨c_8, h⟩ := h
      refine gf_X6_0 hC (pc := 28) c_8 fl_RX11_352 dX11_as_28 ?_
      refine k_iload_n hC (pc := 31) dX11_as_31 3 rfl ?_
      refine k_icmp_lt hC (pc := 32) 39 dX11_as_32 (by decide) (fun c_9 => ?_) (fun c_9 => ?_)
      · have h := h.1 c_9
        refine k_aload_n hC (pc := 39) dX11_as_39 1 rfl ?_
        refine k_iconst hC (pc := 40) (v := 2) dX11_as_40 ic_2 ?_
        refine k_ci (rn_V hC (pc := 41) (As := [.int 2]) (rest := []) ca_X11_noteFault ml_RX11_149 im_X11_noteFault se_X11_noteFault (fx_in f0_0) (ob0_0 _ _ _ _ _) rfl rfl (ct_X11_noteFault 2 h) (by rw [hR]; exact ⟨rfl, rfl, by decide, by decide⟩) rfl (Nat.le_of_ble_eq_true rfl) dX11_as_41 ⟨by rw [hR]; decide, by rw [hR]; decide⟩) (fun r_11 s_10 h => ?_)
        exact k_iret hC (pc := 44) hQ hr dX11_as_44 h
      · have h := h.2 c_9
        refine k_iconst hC (pc := 35) (v := 1) dX11_as_35 ic_1 ?_
        refine k_goto hC (pc := 36) 44 dX11_as_36 (by decide) ?_
        exact k_iret hC (pc := 44) hQ hr dX11_as_44 h
    · have h := h.2 c_7
      refine k_bipush hC (pc := 24) (v := (-2)) dX11_as_24 bp_m2 ?_
      exact k_iret hC (pc := 26) hQ hr dX11_as_26 h
theorem ct_X11_as {l : Launch} {G : Gx} {a : Ax} {s : Sx} {N : Nat} {post : Int32 → Sx → Prop} (x1 : Int32) (x2 : Int32) (h : w_X11_as N x1 x2 s post) : Met l yX11_as (Cond.code yX11_as cX11_as 4 (some .int) :: gw) { frames := 2, cells := 0, slots := 0, locals := 43 } (va_Pc [.ref (adr G a 0 0), .int x1, .int x2] (fun U => FU G a s U)) (Qi G a post) 0 0 (bs_ G) := met_of (plainFor_of_name (by decide)) (Nat.le_of_ble_eq_true rfl) rfl (fun X hC hl hR hQ hr hG hn => by subst hG; exact b_X11_as hC hR hQ hr hn s x1 x2 h)
theorem ca_X11_as : Ca yX11_as cX11_as 4 (some .int) 2 := ⟨cd_X11_as, ii_RX11, by decide, by decide, by decide +kernel⟩
def w_X11_trace (N : Nat) (s : Sx) (post : Int32 → Sx → Prop) : Prop := post (s.1 0 0 4) s
set_option maxHeartbeats 4000000 in
theorem b_X11_trace {X : Kx} {a : Ax} {N : Nat} {post : Int32 → Sx → Prop} (hC : Cx X cX11_trace 1 RX11) (hR : X.R = { frames := 0, cells := 0, slots := 0, locals := 0 }) (hQ : X.Q = MQ X.below (Qi X.G a post) X.av X.s 0 0 (bs_ X.G)) (hr : X.meth.sig.returnType = (some .int)) (hn : X.meth.name = "trace") (s : Sx) (h : w_X11_trace N s post) : wk X a s 1 0 [(0, .ref (adr X.G a 0 0))] [] 0 0 := by
  unfold w_X11_trace at h
  refine k_aload_n hC (pc := 0) dX11_trace_0 0 rfl ?_
  refine gf_X11_4 hC (pc := 1)  fl_RX11_369 dX11_trace_1 ?_
  exact k_iret hC (pc := 4) hQ hr dX11_trace_4 h
theorem ct_X11_trace {l : Launch} {G : Gx} {a : Ax} {s : Sx} {N : Nat} {post : Int32 → Sx → Prop} (h : w_X11_trace N s post) : Met l yX11_trace (Cond.code yX11_trace cX11_trace 1 (some .int) :: gw) { frames := 0, cells := 0, slots := 0, locals := 0 } (va_Pc [.ref (adr G a 0 0)] (fun U => FU G a s U)) (Qi G a post) 0 0 (bs_ G) := met_of (plainFor_of_name (by decide)) (Nat.le_of_ble_eq_true rfl) rfl (fun X hC hl hR hQ hr hG hn => by subst hG; exact b_X11_trace hC hR hQ hr hn s h)
theorem ca_X11_trace : Ca yX11_trace cX11_trace 1 (some .int) 0 := ⟨cd_X11_trace, ii_RX11, by decide, by decide, by decide +kernel⟩
def w_X11_fault (N : Nat) (s : Sx) (post : Int32 → Sx → Prop) : Prop := post (s.1 0 0 14) s
set_option maxHeartbeats 4000000 in
theorem b_X11_fault {X : Kx} {a : Ax} {N : Nat} {post : Int32 → Sx → Prop} (hC : Cx X cX11_fault 1 RX11) (hR : X.R = { frames := 0, cells := 0, slots := 0, locals := 0 }) (hQ : X.Q = MQ X.below (Qi X.G a post) X.av X.s 0 0 (bs_ X.G)) (hr : X.meth.sig.returnType = (some .int)) (hn : X.meth.name = "fault") (s : Sx) (h : w_X11_fault N s post) : wk X a s 1 0 [(0, .ref (adr X.G a 0 0))] [] 0 0 := by
  unfold w_X11_fault at h
  refine k_aload_n hC (pc := 0) dX11_fault_0 0 rfl ?_
  refine gf_X11_14 hC (pc := 1)  fl_RX11_136 dX11_fault_1 ?_
  exact k_iret hC (pc := 4) hQ hr dX11_fault_4 h
theorem ct_X11_fault {l : Launch} {G : Gx} {a : Ax} {s : Sx} {N : Nat} {post : Int32 → Sx → Prop} (h : w_X11_fault N s post) : Met l yX11_fault (Cond.code yX11_fault cX11_fault 1 (some .int) :: gw) { frames := 0, cells := 0, slots := 0, locals := 0 } (va_Pc [.ref (adr G a 0 0)] (fun U => FU G a s U)) (Qi G a post) 0 0 (bs_ G) := met_of (plainFor_of_name (by decide)) (Nat.le_of_ble_eq_true rfl) rfl (fun X hC hl hR hQ hr hG hn => by subst hG; exact b_X11_fault hC hR hQ hr hn s h)
theorem ca_X11_fault : Ca yX11_fault cX11_fault 1 (some .int) 0 := ⟨cd_X11_fault, ii_RX11, by decide, by decide, by decide +kernel⟩
def w_X11_many (N : Nat) (x1 : Int32) (s : Sx) (post : Int32 → Sx → Prop) : Prop := (x1 = 0 → post (s.1 0 1 4) s) ∧ (¬ (x1 = 0) → (x1 = 1 → post (s.1 0 0 1) s) ∧ (¬ (x1 = 1) → (x1 = 2 → post (s.1 0 0 3) s) ∧ (¬ (x1 = 2) → (x1 = 3 → post (s.1 0 0 7) s) ∧ (¬ (x1 = 3) → (x1 = 4 → post (s.1 0 9 6) s) ∧ (¬ (x1 = 4) → (x1 = 5 → post (s.1 0 14 1) s) ∧ (¬ (x1 = 5) → (x1 = 6 → post (s.1 0 14 4) s) ∧ (¬ (x1 = 6) → (x1 = 7 → post (s.1 0 19 4) s) ∧ (¬ (x1 = 7) → (x1 = 8 → post (s.1 0 25 4) s) ∧ (¬ (x1 = 8) → (x1 = 9 → post (s.1 0 34 4) s) ∧ (¬ (x1 = 9) → post ((-2)) s))))))))))
set_option maxHeartbeats 4000000 in
theorem b_X11_many {X : Kx} {a : Ax} {N : Nat} {post : Int32 → Sx → Prop} (hC : Cx X cX11_many 2 RX11) (hR : X.R = { frames := 0, cells := 0, slots := 0, locals := 0 }) (hQ : X.Q = MQ X.below (Qi X.G a post) X.av X.s 0 0 (bs_ X.G)) (hr : X.meth.sig.returnType = (some .int)) (hn : X.meth.name = "many") (s : Sx) (x1 : Int32) (h : w_X11_many N x1 s post) : wk X a s 2 0 [(0, .ref (adr X.G a 0 0)), (1, .int x1)] [] 0 0 := by
  unfold w_X11_many at h
  refine k_iload_n hC (pc := 0) dX11_many_0 1 rfl ?_
  by_cases c_1 : x1 = 0
  · have h := h.1 c_1
    refine k_tsIn hC (pc := 1) (x := x1) 56 dX11_many_1 (by rw [c_1]; decide) (by rw [c_1]; decide) (by rw [c_1]; rfl) (by decide) ?_
    refine k_aload_n hC (pc := 56) dX11_many_56 0 rfl ?_
    refine gf_X11_0 hC (pc := 57)  fl_RX11_12 dX11_many_57 ?_
    refine gf_X0_4 hC (pc := 60)  fl_RX11_155 dX11_many_60 ?_
    exact k_iret hC (pc := 63) hQ hr dX11_many_63 h
  · have h := h.2 c_1
    by_cases c_2 : x1 = 1
    · have h := h.1 c_2
      refine k_tsIn hC (pc := 1) (x := x1) 64 dX11_many_1 (by rw [c_2]; decide) (by rw [c_2]; decide) (by rw [c_2]; rfl) (by decide) ?_
      refine k_aload_n hC (pc := 64) dX11_many_64 0 rfl ?_
      refine gf_X11_1 hC (pc := 65)  fl_RX11_88 dX11_many_65 ?_
      exact k_iret hC (pc := 68) hQ hr dX11_many_68 h
    · have h := h.2 c_2
      by_cases c_3 : x1 = 2
      · have h := h.1 c_3
        refine k_tsIn hC (pc := 1) (x := x1) 69 dX11_many_1 (by rw [c_3]; decide) (by rw [c_3]; decide) (by rw [c_3]; rfl) (by decide) ?_
        refine k_aload_n hC (pc := 69) dX11_many_69 0 rfl ?_
        refine gf_X11_3 hC (pc := 70)  fl_RX11_108 dX11_many_70 ?_
        exact k_iret hC (pc := 73) hQ hr dX11_many_73 h
      · have h := h.2 c_3
        by_cases c_4 : x1 = 3
        · have h := h.1 c_4
          refine k_tsIn hC (pc := 1) (x := x1) 74 dX11_many_1 (by rw [c_4]; decide) (by rw [c_4]; decide) (by rw [c_4]; rfl) (by decide) ?_
          refine k_aload_n hC (pc := 74) dX11_many_74 0 rfl ?_
          refine gf_X11_7 hC (pc := 75)  fl_RX11_171 dX11_many_75 ?_
          exact k_iret hC (pc := 78) hQ hr dX11_many_78 h
        · have h := h.2 c_4
          by_cases c_5 : x1 = 4
          · have h := h.1 c_5
            refine k_tsIn hC (pc := 1) (x := x1) 79 dX11_many_1 (by rw [c_5]; decide) (by rw [c_5]; decide) (by rw [c_5]; rfl) (by decide) ?_
            refine k_aload_n hC (pc := 79) dX11_many_79 0 rfl ?_
            refine gf_X11_8 hC (pc := 80)  fl_RX11_37 dX11_many_80 ?_
            refine gf_X4_6 hC (pc := 83)  fl_RX11_372 dX11_many_83 ?_
            exact k_iret hC (pc := 86) hQ hr dX11_many_86 h
          · have h := h.2 c_5
            by_cases c_6 : x1 = 5
            · have h := h.1 c_6
              refine k_tsIn hC (pc := 1) (x := x1) 87 dX11_many_1 (by rw [c_6]; decide) (by rw [c_6]; decide) (by rw [c_6]; rfl) (by decide) ?_
              refine k_aload_n hC (pc := 87) dX11_many_87 0 rfl ?_
              refine gf_X11_9 hC (pc := 88)  fl_RX11_44 dX11_many_88 ?_
              refine gf_X10_1 hC (pc := 91)  fl_RX11_375 dX11_many_91 ?_
              exact k_iret hC (pc := 94) hQ hr dX11_many_94 h
            · have h := h.2 c_6
              by_cases c_7 : x1 = 6
              · have h := h.1 c_7
                refine k_tsIn hC (pc := 1) (x := x1) 95 dX11_many_1 (by rw [c_7]; decide) (by rw [c_7]; decide) (by rw [c_7]; rfl) (by decide) ?_
                refine k_aload_n hC (pc := 95) dX11_many_95 0 rfl ?_
                refine gf_X11_9 hC (pc := 96)  fl_RX11_44 dX11_many_96 ?_
                refine gf_X10_4 hC (pc := 99)  fl_RX11_376 dX11_many_99 ?_
                exact k_iret hC (pc := 102) hQ hr dX11_many_102 h
              · have h := h.2 c_7
                by_cases c_8 : x1 = 7
                · have h := h.1 c_8
                  refine k_tsIn hC (pc := 1) (x := x1) 103 dX11_many_1 (by rw [c_8]; decide) (by rw [c_8]; decide) (by rw [c_8]; rfl) (by decide) ?_
                  refine k_aload_n hC (pc := 103) dX11_many_103 0 rfl ?_
                  refine gf_X11_10 hC (pc := 104)  fl_RX11_51 dX11_many_104 ?_
                  refine gf_X8_4 hC (pc := 107)  fl_RX11_379 dX11_many_107 ?_
                  exact k_iret hC (pc := 110) hQ hr dX11_many_110 h
                · have h := h.2 c_8
                  by_cases c_9 : x1 = 8
                  · have h := h.1 c_9
                    refine k_tsIn hC (pc := 1) (x := x1) 111 dX11_many_1 (by rw [c_9]; decide) (by rw [c_9]; decide) (by rw [c_9]; rfl) (by decide) ?_
                    refine k_aload_n hC (pc := 111) dX11_many_111 0 rfl ?_
                    refine gf_X11_11 hC (pc := 112)  fl_RX11_58 dX11_many_112 ?_
                    refine gf_X1_4 hC (pc := 115)  fl_RX11_380 dX11_many_115 ?_
                    exact k_iret hC (pc := 118) hQ hr dX11_many_118 h
                  · have h := h.2 c_9
                    by_cases c_10 : x1 = 9
                    · have h := h.1 c_10
                      refine k_tsIn hC (pc := 1) (x := x1) 119 dX11_many_1 (by rw [c_10]; decide) (by rw [c_10]; decide) (by rw [c_10]; rfl) (by decide) ?_
                      refine k_aload_n hC (pc := 119) dX11_many_119 0 rfl ?_
                      refine gf_X11_12 hC (pc := 120)  fl_RX11_65 dX11_many_120 ?_
                      refine gf_X5_4 hC (pc := 123)  fl_RX11_381 dX11_many_123 ?_
                      exact k_iret hC (pc := 126) hQ hr dX11_many_126 h
                    · have h := h.2 c_10
                      refine k_tsOut hC (pc := 1) (x := x1) 127 dX11_many_1 (ts_out10 c_1 c_2 c_3 c_4 c_5 c_6 c_7 c_8 c_9 c_10) (by decide) ?_
                      refine k_bipush hC (pc := 127) (v := (-2)) dX11_many_127 bp_m2 ?_
                      exact k_iret hC (pc := 129) hQ hr dX11_many_129 h
theorem ct_X11_many {l : Launch} {G : Gx} {a : Ax} {s : Sx} {N : Nat} {post : Int32 → Sx → Prop} (x1 : Int32) (h : w_X11_many N x1 s post) : Met l yX11_many (Cond.code yX11_many cX11_many 2 (some .int) :: gw) { frames := 0, cells := 0, slots := 0, locals := 0 } (va_Pc [.ref (adr G a 0 0), .int x1] (fun U => FU G a s U)) (Qi G a post) 0 0 (bs_ G) := met_of (plainFor_of_name (by decide)) (Nat.le_of_ble_eq_true rfl) rfl (fun X hC hl hR hQ hr hG hn => by subst hG; exact b_X11_many hC hR hQ hr hn s x1 h)
theorem ca_X11_many : Ca yX11_many cX11_many 2 (some .int) 1 := ⟨cd_X11_many, ii_RX11, by decide, by decide, by decide +kernel⟩
