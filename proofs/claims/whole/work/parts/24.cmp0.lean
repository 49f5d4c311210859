def w_X11_isWithin (N : Nat) (x0 : Int32) (x1 : Int32) (x2 : Int32) (s : Sx) (post : Int32 → Sx → Prop) : Prop := (x0 < x1 → post 0 s) ∧ (¬ (x0 < x1) → (x2 < x0 → post 0 s) ∧ (¬ (x2 < x0) → post 1 s))
set_option maxHeartbeats 4000000 in
theorem b_X11_isWithin {X : Kx} {a : Ax} {N : Nat} {post : Int32 → Sx → Prop} (hC : Cx X cX11_isWithin 3 RX11) (hR : X.R = { frames := 0, cells := 0, slots := 0, locals := 0 }) (hQ : X.Q = MQ X.below (Qi X.G a post) X.av X.s 0 0 (bs_ X.G)) (hr : X.meth.sig.returnType = (some .boolean)) (hn : X.meth.name = "isWithin") (s : Sx) (x0 : Int32) (x1 : Int32) (x2 : Int32) (h : w_X11_isWithin N x0 x1 x2 s post) : wk X a s 3 0 [(0, .int x0), (1, .int x1), (2, .int x2)] [] 0 0 := by
  unfold w_X11_isWithin at h
  refine k_iload_n hC (pc := 0) dX11_isWithin_0 1 rfl ?_
  refine k_iload_n hC (pc := 1) dX11_isWithin_1 0 rfl ?_
  refine k_icmp_gt hC (pc := 2) 14 dX11_isWithin_2 (by decide) (fun c_1 => ?_) (fun c_1 => ?_)
  · have h := h.1 c_1
    refine k_iconst hC (pc := 14) (v := 0) dX11_isWithin_14 ic_0 ?_
    exact k_zret hC (pc := 15) hQ hr dX11_isWithin_15 (Or.inl rfl) h
  · have h := h.2 c_1
    refine k_iload_n hC (pc := 5) dX11_isWithin_5 0 rfl ?_
    refine k_iload_n hC (pc := 6) dX11_isWithin_6 2 rfl ?_
    refine k_icmp_gt hC (pc := 7) 14 dX11_isWithin_7 (by decide) (fun c_2 => ?_) (fun c_2 => ?_)
    · have h := h.1 c_2
      refine k_iconst hC (pc := 14) (v := 0) dX11_isWithin_14 ic_0 ?_
      exact k_zret hC (pc := 15) hQ hr dX11_isWithin_15 (Or.inl rfl) h
    · have h := h.2 c_2
      refine k_iconst hC (pc := 10) (v := 1) dX11_isWithin_10 ic_1 ?_
      refine k_goto hC (pc := 11) 15 dX11_isWithin_11 (by decide) ?_
      exact k_zret hC (pc := 15) hQ hr dX11_isWithin_15 (Or.inr rfl) h
theorem ct_X11_isWithin {l : Launch} {G : Gx} {a : Ax} {s : Sx} {N : Nat} {post : Int32 → Sx → Prop} (x0 : Int32) (x1 : Int32) (x2 : Int32) (h : w_X11_isWithin N x0 x1 x2 s post) : Met l yX11_isWithin (Cond.code yX11_isWithin cX11_isWithin 3 (some .boolean) :: gw) { frames := 0, cells := 0, slots := 0, locals := 0 } (va_Pc [.int x0, .int x1, .int x2] (fun U => FU G a s U)) (Qi G a post) 0 0 (bs_ G) := met_of (plainFor_of_name (by decide)) (Nat.le_of_ble_eq_true rfl) rfl (fun X hC hl hR hQ hr hG hn => by subst hG; exact b_X11_isWithin hC hR hQ hr hn s x0 x1 x2 h)
theorem ca_X11_isWithin : Ca yX11_isWithin cX11_isWithin 3 (some .boolean) 3 := ⟨cd_X11_isWithin, ii_RX11, by decide, by decide, by decide +kernel⟩
def w_X0_has (N : Nat) (x1 : Int32) (s : Sx) (post : Int32 → Sx → Prop) : Prop := w_X11_isWithin N x1 0 ((s.1 0 1 4) - 1) s (fun r_2 s_1 => (r_2 = 0 ∨ r_2 = 1) ∧ post r_2 s_1)
set_option maxHeartbeats 4000000 in
theorem b_X0_has {X : Kx} {a : Ax} {N : Nat} {post : Int32 → Sx → Prop} (hC : Cx X cX0_has 2 RX0) (hR : X.R = { frames := 1, cells := 0, slots := 0, locals := 22 }) (hQ : X.Q = MQ X.below (Qi X.G a post) X.av X.s 0 0 (bs_ X.G)) (hr : X.meth.sig.returnType = (some .boolean)) (hn : X.meth.name = "has") (s : Sx) (x1 : Int32) (h : w_X0_has N x1 s post) : wk X a s 2 0 [(0, .ref (adr X.G a 0 1)), (1, .int x1)] [] 0 0 := by
  unfold w_X0_has at h
  refine k_iload_n hC (pc := 0) dX0_has_0 1 rfl ?_
  refine k_iconst hC (pc := 1) (v := 0) dX0_has_1 ic_0 ?_
  refine k_aload_n hC (pc := 2) dX0_has_2 0 rfl ?_
  refine gf_X0_4 hC (pc := 3)  fl_RX0_24 dX0_has_3 ?_
  refine k_iconst hC (pc := 6) (v := 1) dX0_has_6 ic_1 ?_
  refine k_isub hC (pc := 7) dX0_has_7 ?_
  refine k_ci (rn_SN hC (pc := 8) (As := [.int x1, .int 0, .int ((s.1 0 1 4) - 1)]) (rest := []) ca_X11_isWithin nl_RX0_28 sm_X11_isWithin (ct_X11_isWithin x1 0 ((s.1 0 1 4) - 1) h) (by rw [hR]; exact ⟨rfl, rfl, by decide, by decide⟩) rfl (Nat.le_of_ble_eq_true rfl) dX0_has_8 ⟨by rw [hR]; decide, by rw [hR]; decide⟩) (fun r_2 s_1 h => ?_)
  obtain ⟨c_3, h⟩ := h
  exact k_zret hC (pc := 11) hQ hr dX0_has_11 c_3 h
theorem ct_X0_has {l : Launch} {G : Gx} {a : Ax} {s : Sx} {N : Nat} {post : Int32 → Sx → Prop} (x1 : Int32) (h : w_X0_has N x1 s post) : Met l yX0_has (Cond.code yX0_has cX0_has 2 (some .boolean) :: gw) { frames := 1, cells := 0, slots := 0, locals := 22 } (va_Pc [.ref (adr G a 0 1), .int x1] (fun U => FU G a s U)) (Qi G a post) 0 0 (bs_ G) := met_of (plainFor_of_name (by decide)) (Nat.le_of_ble_eq_true rfl) rfl (fun X hC hl hR hQ hr hG hn => by subst hG; exact b_X0_has hC hR hQ hr hn s x1 h)
theorem ca_X0_has : Ca yX0_has cX0_has 2 (some .boolean) 1 := ⟨cd_X0_has, ii_RX0, by decide, by decide, by decide +kernel⟩
def w_X0_add (N : Nat) (x1 : Int32) (x2 : Int32) (x3 : Int32) (s : Sx) (post : Int32 → Sx → Prop) : Prop := ((s.1 0 1 4) < 7 → vp_in (s.1 0 1 4) 7 ∧ ∀ s_3, s_3 = setI s 0 2 (s.1 0 1 4).toNatClampNeg x1 → vp_in (s_3.1 0 1 4) 7 ∧ ∀ s_5, s_5 = setI s_3 0 3 (s_3.1 0 1 4).toNatClampNeg x2 → vp_in (s_5.1 0 1 4) 7 ∧ ∀ s_7, s_7 = setI s_5 0 4 (s_5.1 0 1 4).toNatClampNeg x3 → ∀ s_8, s_8 = setI s_7 0 1 4 ((s_7.1 0 1 4) + 1) → post ((s_8.1 0 1 4) - 1) s_8) ∧ (¬ ((s.1 0 1 4) < 7) → post ((-4)) s)
set_option maxHeartbeats 4000000 in
theorem b_X0_add {X : Kx} {a : Ax} {N : Nat} {post : Int32 → Sx → Prop} (hC : Cx X cX0_add 4 RX0) (hR : X.R = { frames := 0, cells := 0, slots := 0, locals := 0 }) (hQ : X.Q = MQ X.below (Qi X.G a post) X.av X.s 0 0 (bs_ X.G)) (hr : X.meth.sig.returnType = (some .int)) (hn : X.meth.name = "add") (s : Sx) (x1 : Int32) (x2 : Int32) (x3 : Int32) (h : w_X0_add N x1 x2 x3 s post) : wk X a s 4 0 [(0, .ref (adr X.G a 0 1)), (1, .int x1), (2, .int x2), (3, .int x3)] [] 0 0 := by
  unfold w_X0_add at h
  refine k_aload_n hC (pc := 0) dX0_add_0 0 rfl ?_
  refine gf_X0_4 hC (pc := 1)  fl_RX0_24 dX0_add_1 ?_
  refine k_bipush hC (pc := 4) (v := 7) dX0_add_4 bp_7 ?_
  refine k_icmp_lt hC (pc := 6) 12 dX0_add_6 (by decide) (fun c_1 => ?_) (fun c_1 => ?_)
  · have h := h.1 c_1
    refine k_aload_n hC (pc := 12) dX0_add_12 0 rfl ?_
    refine gf_X0_0 hC (pc := 13)  fl_RX0_9 dX0_add_13 ?_
    refine k_aload_n hC (pc := 16) dX0_add_16 0 rfl ?_
    refine gf_X0_4 hC (pc := 17)  fl_RX0_24 dX0_add_17 ?_
    refine k_iload_n hC (pc := 20) dX0_add_20 1 rfl ?_
    obtain ⟨c_2, h⟩ := h
    refine r_iast hC (pc := 21) ra0_2 c_2 dX0_add_21 (fun s_3 h_s_3 => ?_)
    have h := h s_3 h_s_3
    refine k_aload_n hC (pc := 22) dX0_add_22 0 rfl ?_
    refine gf_X0_1 hC (pc := 23)  fl_RX0_15 dX0_add_23 ?_
    refine k_aload_n hC (pc := 26) dX0_add_26 0 rfl ?_
    refine gf_X0_4 hC (pc := 27)  fl_RX0_24 dX0_add_27 ?_
    refine k_iload_n hC (pc := 30) dX0_add_30 2 rfl ?_
    obtain ⟨c_4, h⟩ := h
    refine r_iast hC (pc := 31) ra0_3 c_4 dX0_add_31 (fun s_5 h_s_5 => ?_)
    have h := h s_5 h_s_5
    refine k_aload_n hC (pc := 32) dX0_add_32 0 rfl ?_
    refine gf_X0_2 hC (pc := 33)  fl_RX0_18 dX0_add_33 ?_
    refine k_aload_n hC (pc := 36) dX0_add_36 0 rfl ?_
    refine gf_X0_4 hC (pc := 37)  fl_RX0_24 dX0_add_37 ?_
    refine k_iload_n hC (pc := 40) dX0_add_40 3 rfl ?_
    obtain ⟨c_6, h⟩ := h
    refine r_iast hC (pc := 41) ra0_4 c_6 dX0_add_41 (fun s_7 h_s_7 => ?_)
    have h := h s_7 h_s_7
    refine k_aload_n hC (pc := 42) dX0_add_42 0 rfl ?_
    refine k_dup hC (pc := 43) dX0_add_43 rfl ?_
    refine gf_X0_4 hC (pc := 44)  fl_RX0_24 dX0_add_44 ?_
    refine k_iconst hC (pc := 47) (v := 1) dX0_add_47 ic_1 ?_
    refine k_iadd hC (pc := 48) dX0_add_48 ?_
    refine pf_X0_4 hC (pc := 49)  fl_RX0_24 dX0_add_49 (fun s_8 h_s_8 => ?_)
    have h := h s_8 h_s_8
    refine k_aload_n hC (pc := 52) dX0_add_52 0 rfl ?_
    refine gf_X0_4 hC (pc := 53)  fl_RX0_24 dX0_add_53 ?_
    refine k_iconst hC (pc := 56) (v := 1) dX0_add_56 ic_1 ?_
    refine k_isub hC (pc := 57) dX0_add_57 ?_
    exact k_iret hC (pc := 58) hQ hr dX0_add_58 h
  · have h := h.2 c_1
    refine k_bipush hC (pc := 9) (v := (-4)) dX0_add_9 bp_m4 ?_
    exact k_iret hC (pc := 11) hQ hr dX0_add_11 h
theorem ct_X0_add {l : Launch} {G : Gx} {a : Ax} {s : Sx} {N : Nat} {post : Int32 → Sx → Prop} (x1 : Int32) (x2 : Int32) (x3 : Int32) (h : w_X0_add N x1 x2 x3 s post) : Met l yX0_add (Cond.code yX0_add cX0_add 4 (some .int) :: gw) { frames := 0, cells := 0, slots := 0, locals := 0 } (va_Pc [.ref (adr G a 0 1), .int x1, .int x2, .int x3] (fun U => FU G a s U)) (Qi G a post) 0 0 (bs_ G) := met_of (plainFor_of_name (by decide)) (Nat.le_of_ble_eq_true rfl) rfl (fun X hC hl hR hQ hr hG hn => by subst hG; exact b_X0_add hC hR hQ hr hn s x1 x2 x3 h)
theorem ca_X0_add : Ca yX0_add cX0_add 4 (some .int) 3 := ⟨cd_X0_add, ii_RX0, by decide, by decide, by decide +kernel⟩
def w_X0_far (N : Nat) (x1 : Int32) (x2 : Int32) (x3 : Int32) (s : Sx) (post : Int32 → Sx → Prop) : Prop := vp_in x1 7 ∧ w_J9_abs_0f7a4 N ((s.1 0 2 x1.toNatClampNeg) - x2) s (fun r_3 s_2 => vp_in x1 7 ∧ w_J9_abs_0f7a4 N ((s_2.1 0 3 x1.toNatClampNeg) - x3) s_2 (fun r_6 s_5 => post (r_3 + r_6) s_5))
set_option maxHeartbeats 4000000 in
theorem b_X0_far {X : Kx} {a : Ax} {N : Nat} {post : Int32 → Sx → Prop} (hC : Cx X cX0_far 4 RX0) (hR : X.R = { frames := 1, cells := 0, slots := 0, locals := 20 }) (hQ : X.Q = MQ X.below (Qi X.G a post) X.av X.s 0 0 (bs_ X.G)) (hr : X.meth.sig.returnType = (some .int)) (hn : X.meth.name = "far") (s : Sx) (x1 : Int32) (x2 : Int32) (x3 : Int32) (h : w_X0_far N x1 x2 x3 s post) : wk X a s 4 0 [(0, .ref (adr X.G a 0 1)), (1, .int x1), (2, .int x2), (3, .int x3)] [] 0 0 := by
  unfold w_X0_far at h
  refine k_aload_n hC (pc := 0) dX0_far_0 0 rfl ?_
  refine gf_X0_0 hC (pc := 1)  fl_RX0_9 dX0_far_1 ?_
  refine k_iload_n hC (pc := 4) dX0_far_4 1 rfl ?_
  obtain ⟨c_1, h⟩ := h
  refine r_iald hC (pc := 5) ra0_2 c_1 dX0_far_5 ?_
  refine k_iload_n hC (pc := 6) dX0_far_6 2 rfl ?_
  refine k_isub hC (pc := 7) dX0_far_7 ?_
  refine k_ci (rn_S hC (pc := 8) (As := [.int ((s.1 0 2 x1.toNatClampNeg) - x2)]) (rest := []) ca_J9_abs_0f7a4 ml_RX0_32 sm_J9_abs_0f7a4 (ct_J9_abs_0f7a4 ((s.1 0 2 x1.toNatClampNeg) - x2) h) (by rw [hR]; exact ⟨rfl, rfl, by decide, by decide⟩) rfl (Nat.le_of_ble_eq_true rfl) dX0_far_8 ⟨by rw [hR]; decide, by rw [hR]; decide⟩) (fun r_3 s_2 h => ?_)
  refine k_aload_n hC (pc := 11) dX0_far_11 0 rfl ?_
  refine gf_X0_1 hC (pc := 12)  fl_RX0_15 dX0_far_12 ?_
  refine k_iload_n hC (pc := 15) dX0_far_15 1 rfl ?_
  obtain ⟨c_4, h⟩ := h
  refine r_iald hC (pc := 16) ra0_3 c_4 dX0_far_16 ?_
  refine k_iload_n hC (pc := 17) dX0_far_17 3 rfl ?_
  refine k_isub hC (pc := 18) dX0_far_18 ?_
  refine k_ci (rn_S hC (pc := 19) (As := [.int ((s_2.1 0 3 x1.toNatClampNeg) - x3)]) (rest := [.int r_3]) ca_J9_abs_0f7a4 ml_RX0_32 sm_J9_abs_0f7a4 (ct_J9_abs_0f7a4 ((s_2.1 0 3 x1.toNatClampNeg) - x3) h) (by rw [hR]; exact ⟨rfl, rfl, by decide, by decide⟩) rfl (Nat.le_of_ble_eq_true rfl) dX0_far_19 ⟨by rw [hR]; decide, by rw [hR]; decide⟩) (fun r_6 s_5 h => ?_)
  refine k_iadd hC (pc := 22) dX0_far_22 ?_
  exact k_iret hC (pc := 23) hQ hr dX0_far_23 h
theorem ct_X0_far {l : Launch} {G : Gx} {a : Ax} {s : Sx} {N : Nat} {post : Int32 → Sx → Prop} (x1 : Int32) (x2 : Int32) (x3 : Int32) (h : w_X0_far N x1 x2 x3 s post) : Met l yX0_far (Cond.code yX0_far cX0_far 4 (some .int) :: gw) { frames := 1, cells := 0, slots := 0, locals := 20 } (va_Pc [.ref (adr G a 0 1), .int x1, .int x2, .int x3] (fun U => FU G a s U)) (Qi G a post) 0 0 (bs_ G) := met_of (plainFor_of_name (by decide)) (Nat.le_of_ble_eq_true rfl) rfl (fun X hC hl hR hQ hr hG hn => by subst hG; exact b_X0_far hC hR hQ hr hn s x1 x2 x3 h)
theorem ca_X0_far : Ca yX0_far cX0_far 4 (some .int) 3 := ⟨cd_X0_far, ii_RX0, by decide, by decide, by decide +kernel⟩
def w_X1_add (N : Nat) (x1 : Int32) (x2 : Int32) (x3 : Int32) (x4 : Int32) (s : Sx) (post : Int32 → Sx → Prop) : Prop := ((s.1 0 25 4) < 3 → vp_in (s.1 0 25 4) 3 ∧ ∀ s_3, s_3 = setI s 0 26 (s.1 0 25 4).toNatClampNeg x1 → vp_in (s_3.1 0 25 4) 3 ∧ ∀ s_5, s_5 = setI s_3 0 27 (s_3.1 0 25 4).toNatClampNeg x2 → vp_in (s_5.1 0 25 4) 3 ∧ ∀ s_7, s_7 = setI s_5 0 28 (s_5.1 0 25 4).toNatClampNeg x3 → vp_in (s_7.1 0 25 4) 3 ∧ ∀ s_9, s_9 = setI s_7 0 29 (s_7.1 0 25 4).toNatClampNeg x4 → ∀ s_10, s_10 = setI s_9 0 25 4 ((s_9.1 0 25 4) + 1) → post ((s_10.1 0 25 4) - 1) s_10) ∧ (¬ ((s.1 0 25 4) < 3) → post ((-4)) s)
set_option maxHeartbeats 4000000 in
theorem b_X1_add {X : Kx} {a : Ax} {N : Nat} {post : Int32 → Sx → Prop} (hC : Cx X cX1_add 5 RX1) (hR : X.R = { frames := 0, cells := 0, slots := 0, locals := 0 }) (hQ : X.Q = MQ X.below (Qi X.G a post) X.av X.s 0 0 (bs_ X.G)) (hr : X.meth.sig.returnType = (some .int)) (hn : X.meth.name = "add") (s : Sx) (x1 : Int32) (x2 : Int32) (x3 : Int32) (x4 : Int32) (h : w_X1_add N x1 x2 x3 x4 s post) : wk X a s 5 0 [(0, .ref (adr X.G a 0 25)), (1, .int x1), (2, .int x2), (3, .int x3), (4, .int x4)] [] 0 0 := by
  unfold w_X1_add at h
  refine k_aload_n hC (pc := 0) dX1_add_0 0 rfl ?_
  refine gf_X1_4 hC (pc := 1)  fl_RX1_37 dX1_add_1 ?_
  refine k_iconst hC (pc := 4) (v := 3) dX1_add_4 ic_3 ?_
  refine k_icmp_lt hC (pc := 5) 11 dX1_add_5 (by decide) (fun c_1 => ?_) (fun c_1 => ?_)
  · have h := h.1 c_1
    refine k_aload_n hC (pc := 11) dX1_add_11 0 rfl ?_
    refine gf_X1_0 hC (pc := 12)  fl_RX1_11 dX1_add_12 ?_
    refine k_aload_n hC (pc := 15) dX1_add_15 0 rfl ?_
    refine gf_X1_4 hC (pc := 16)  fl_RX1_37 dX1_add_16 ?_
    refine k_iload_n hC (pc := 19) dX1_add_19 1 rfl ?_
    obtain ⟨c_2, h⟩ := h
    refine r_iast hC (pc := 20) ra0_26 c_2 dX1_add_20 (fun s_3 h_s_3 => ?_)
    have h := h s_3 h_s_3
    refine k_aload_n hC (pc := 21) dX1_add_21 0 rfl ?_
    refine gf_X1_1 hC (pc := 22)  fl_RX1_15 dX1_add_22 ?_
    refine k_aload_n hC (pc := 25) dX1_add_25 0 rfl ?_
    refine gf_X1_4 hC (pc := 26)  fl_RX1_37 dX1_add_26 ?_
    refine k_iload_n hC (pc := 29) dX1_add_29 2 rfl ?_
    obtain ⟨c_4, h⟩ := h
    refine r_iast hC (pc := 30) ra0_27 c_4 dX1_add_30 (fun s_5 h_s_5 => ?_)
    have h := h s_5 h_s_5
    refine k_aload_n hC (pc := 31) dX1_add_31 0 rfl ?_
    refine gf_X1_2 hC (pc := 32)  fl_RX1_18 dX1_add_32 ?_
    refine k_aload_n hC (pc := 35) dX1_add_35 0 rfl ?_
    refine gf_X1_4 hC (pc := 36)  fl_RX1_37 dX1_add_36 ?_
    refine k_iload_n hC (pc := 39) dX1_add_39 3 rfl ?_
    obtain ⟨c_6, h⟩ := h
    refine r_iast hC (pc := 40) ra0_28 c_6 dX1_add_40 (fun s_7 h_s_7 => ?_)
    have h := h s_7 h_s_7
    refine k_aload_n hC (pc := 41) dX1_add_41 0 rfl ?_
    refine gf_X1_3 hC (pc := 42)  fl_RX1_21 dX1_add_42 ?_
    refine k_aload_n hC (pc := 45) dX1_add_45 0 rfl ?_
    refine gf_X1_4 hC (pc := 46)  fl_RX1_37 dX1_add_46 ?_
    refine k_iload hC (pc := 49) dX1_add_49 4 rfl ?_
    obtain ⟨c_8, h⟩ := h
    refine r_iast hC (pc := 51) ra0_29 c_8 dX1_add_51 (fun s_9 h_s_9 => ?_)
    have h := h s_9 h_s_9
    refine k_aload_n hC (pc := 52) dX1_add_52 0 rfl ?_
    refine k_dup hC (pc := 53) dX1_add_53 rfl ?_
    refine gf_X1_4 hC (pc := 54)  fl_RX1_37 dX1_add_54 ?_
    refine k_iconst hC (pc := 57) (v := 1) dX1_add_57 ic_1 ?_
    refine k_iadd hC (pc := 58) dX1_add_58 ?_
    refine pf_X1_4 hC (pc := 59)  fl_RX1_37 dX1_add_59 (fun s_10 h_s_10 => ?_)
    have h := h s_10 h_s_10
    refine k_aload_n hC (pc := 62) dX1_add_62 0 rfl ?_
    refine gf_X1_4 hC (pc := 63)  fl_RX1_37 dX1_add_63 ?_
    refine k_iconst hC (pc := 66) (v := 1) dX1_add_66 ic_1 ?_
    refine k_isub hC (pc := 67) dX1_add_67 ?_
    exact k_iret hC (pc := 68) hQ hr dX1_add_68 h
  · have h := h.2 c_1
    refine k_bipush hC (pc := 8) (v := (-4)) dX1_add_8 bp_m4 ?_
    exact k_iret hC (pc := 10) hQ hr dX1_add_10 h
theorem ct_X1_add {l : Launch} {G : Gx} {a : Ax} {s : Sx} {N : Nat} {post : Int32 → Sx → Prop} (x1 : Int32) (x2 : Int32) (x3 : Int32) (x4 : Int32) (h : w_X1_add N x1 x2 x3 x4 s post) : Met l yX1_add (Cond.code yX1_add cX1_add 5 (some .int) :: gw) { frames := 0, cells := 0, slots := 0, locals := 0 } (va_Pc [.ref (adr G a 0 25), .int x1, .int x2, .int x3, .int x4] (fun U => FU G a s U)) (Qi G a post) 0 0 (bs_ G) := met_of (plainFor_of_name (by decide)) (Nat.le_of_ble_eq_true rfl) rfl (fun X hC hl hR hQ hr hG hn => by subst hG; exact b_X1_add hC hR hQ hr hn s x1 x2 x3 x4 h)
theorem ca_X1_add : Ca yX1_add cX1_add 5 (some .int) 4 := ⟨cd_X1_add, ii_RX1, by decide, by decide, by decide +kernel⟩
def w_X1_isCall_5 (N : Nat) (post : Int32 → Sx → Prop) : Nat → Sx → Int32 → Int32 → Int32 → Prop
  | 0, _, _, _, _ => False
  | n + 1, s, x2, x3, x4 => ((s.1 0 1 4) ≤ x4 → w_X11_isWithin N x2 0 (x3 - 1) s (fun r_3 s_2 => (r_3 = 0 ∨ r_3 = 1) ∧ post r_3 s_2)) ∧ (¬ ((s.1 0 1 4) ≤ x4) → ∀ x_5 : Int32, x_5 = x3 * ((s.1 0 25 4) + 1) → ∀ x_6 : Int32, x_6 = x4 + 1 → w_X1_isCall_5 N post n s x2 x_5 x_6)
def w_X1_isCall (N : Nat) (x2 : Int32) (s : Sx) (post : Int32 → Sx → Prop) : Prop := w_X1_isCall_5 N post N s x2 1 0
set_option maxHeartbeats 4000000 in
theorem b_X1_isCall_5 {X : Kx} {a : Ax} {N : Nat} {post : Int32 → Sx → Prop}  (hC : Cx X cX1_isCall 5 RX1) (hR : X.R = { frames := 1, cells := 0, slots := 0, locals := 22 }) (hQ : X.Q = MQ X.below (Qi X.G a post) X.av X.s 0 0 (bs_ X.G)) (hr : X.meth.sig.returnType = (some .boolean))   : ∀ (n : Nat) (s : Sx) (x2 : Int32) (x3 : Int32) (x4 : Int32), w_X1_isCall_5 N post  n s x2 x3 x4 → wk X a s 5 5 [(0, .ref (adr X.G a 0 25)), (1, .ref (adr X.G a 0 1)), (2, .int x2), (3, .int x3), (4, .int x4)] [] 0 0 := by
  intro n
  induction n with
  | zero => intro s x2 x3 x4 h; exact h.elim
  | succ n ih =>
    intro s x2 x3 x4 h
    unfold w_X1_isCall_5 at h
    refine k_iload hC (pc := 5) dX1_isCall_5 4 rfl ?_
    refine k_aload_n hC (pc := 7) dX1_isCall_7 1 rfl ?_
    refine gf_X0_4 hC (pc := 8)  fl_RX1_41 dX1_isCall_8 ?_
    refine k_icmp_ge hC (pc := 11) 29 dX1_isCall_11 (by decide) (fun c_1 => ?_) (fun c_1 => ?_)
    · have h := h.1 c_1
      refine k_iload_n hC (pc := 29) dX1_isCall_29 2 rfl ?_
      refine k_iconst hC (pc := 30) (v := 0) dX1_isCall_30 ic_0 ?_
      refine k_iload_n hC (pc := 31) dX1_isCall_31 3 rfl ?_
      refine k_iconst hC (pc := 32) (v := 1) dX1_isCall_32 ic_1 ?_
      refine k_isub hC (pc := 33) dX1_isCall_33 ?_
      refine k_ci (rn_SN hC (pc := 34) (As := [.int x2, .int 0, .int (x3 - 1)]) (rest := []) ca_X11_isWithin nl_RX1_44 sm_X11_isWithin (ct_X11_isWithin x2 0 (x3 - 1) h) (by rw [hR]; exact ⟨rfl, rfl, by decide, by decide⟩) rfl (Nat.le_of_ble_eq_true rfl) dX1_isCall_34 ⟨by rw [hR]; decide, by rw [hR]; decide⟩) (fun r_3 s_2 h => ?_)
      obtain ⟨c_4, h⟩ := h
      exact k_zret hC (pc := 37) hQ hr dX1_isCall_37 c_4 h
    · have h := h.2 c_1
      refine k_iload_n hC (pc := 14) dX1_isCall_14 3 rfl ?_
      refine k_aload_n hC (pc := 15) dX1_isCall_15 0 rfl ?_
      refine gf_X1_4 hC (pc := 16)  fl_RX1_37 dX1_isCall_16 ?_
      refine k_iconst hC (pc := 19) (v := 1) dX1_isCall_19 ic_1 ?_
      refine k_iadd hC (pc := 20) dX1_isCall_20 ?_
      refine k_imul hC (pc := 21) dX1_isCall_21 ?_
      refine k_topi (fun x_5 h_x_5 => ?_)
      have h := h x_5 h_x_5
      refine k_istore_n hC (pc := 22) dX1_isCall_22 [(3, .int x_5), (0, .ref (adr X.G a 0 25)), (1, .ref (adr X.G a 0 1)), (2, .int x2), (4, .int x4)] (by decide) rfl ?_
      obtain ⟨x_6, h_x_6⟩ : ∃ z : Int32, z = x4 + 1 := ⟨_, rfl⟩
      have h := h x_6 h_x_6
      refine k_iincw hC (pc := 23) dX1_isCall_23 4 rfl ic_1 h_x_6.symm [(4, .int x_6), (3, .int x_5), (0, .ref (adr X.G a 0 25)), (1, .ref (adr X.G a 0 1)), (2, .int x2)] (by decide) rfl ?_
      refine k_goto hC (pc := 26) 5 dX1_isCall_26 (by decide) ?_
      refine k_sub [(0, .ref (adr X.G a 0 25)), (1, .ref (adr X.G a 0 1)), (2, .int x2), (3, .int x_5), (4, .int x_6)] [2, 3, 4, 1, 0] rfl ?_
      exact ih _ _ _ _ h
set_option maxHeartbeats 4000000 in
theorem b_X1_isCall {X : Kx} {a : Ax} {N : Nat} {post : Int32 → Sx → Prop} (hC : Cx X cX1_isCall 5 RX1) (hR : X.R = { frames := 1, cells := 0, slots := 0, locals := 22 }) (hQ : X.Q = MQ X.below (Qi X.G a post) X.av X.s 0 0 (bs_ X.G)) (hr : X.meth.sig.returnType = (some .boolean)) (hn : X.meth.name = "isCall") (s : Sx) (x2 : Int32) (h : w_X1_isCall N x2 s post) : wk X a s 5 0 [(0, .ref (adr X.G a 0 25)), (1, .ref (adr X.G a 0 1)), (2, .int x2)] [] 0 0 := by
  unfold w_X1_isCall at h
  refine k_iconst hC (pc := 0) (v := 1) dX1_isCall_0 ic_1 ?_
  refine k_istore_n hC (pc := 1) dX1_isCall_1 [(3, .int 1), (0, .ref (adr X.G a 0 25)), (1, .ref (adr X.G a 0 1)), (2, .int x2)] (by decide) rfl ?_
  refine k_iconst hC (pc := 2) (v := 0) dX1_isCall_2 ic_0 ?_
  refine k_istore hC (pc := 3) dX1_isCall_3 [(4, .int 0), (3, .int 1), (0, .ref (adr X.G a 0 25)), (1, .ref (adr X.G a 0 1)), (2, .int x2)] (by decide) rfl ?_
  refine k_sub [(0, .ref (adr X.G a 0 25)), (1, .ref (adr X.G a 0 1)), (2, .int x2), (3, .int 1), (4, .int 0)] [2, 3, 4, 1, 0] rfl ?_
  exact b_X1_isCall_5 hC hR hQ hr N _ _ _ _ h
theorem ct_X1_isCall {l : Launch} {G : Gx} {a : Ax} {s : Sx} {N : Nat} {post : Int32 → Sx → Prop} (x2 : Int32) (h : w_X1_isCall N x2 s post) : Met l yX1_isCall (Cond.code yX1_isCall cX1_isCall 5 (some .boolean) :: gw) { frames := 1, cells := 0, slots := 0, locals := 22 } (va_Pc [.ref (adr G a 0 25), .ref (adr G a 0 1), .int x2] (fun U => FU G a s U)) (Qi G a post) 0 0 (bs_ G) := met_of (plainFor_of_name (by decide)) (Nat.le_of_ble_eq_true rfl) rfl (fun X hC hl hR hQ hr hG hn => by subst hG; exact b_X1_isCall hC hR hQ hr hn s x2 h)
theorem ca_X1_isCall : Ca yX1_isCall cX1_isCall 5 (some .boolean) 2 := ⟨cd_X1_isCall, ii_RX1, by decide, by decide, by decide +kernel⟩
def w_X1_lineUp_92 (N : Nat) (post : Sx → Prop) (K2 : Sx → Int32 → Int32 → Prop) (s : Sx) (x2 : Int32) (x3 : Int32) (x4 : Int32) : Prop := vp_in x4 7 ∧ ∀ s_10, s_10 = setI s 0 31 x4.toNatClampNeg x3 → ∀ x_11 : Int32, x_11 = x3 + 1 → K2 s_10 x2 x_11
def w_X1_lineUp_42 (N : Nat) (post : Sx → Prop) (K2 : Sx → Int32 → Int32 → Prop) : Nat → Sx → Int32 → Int32 → Int32 → Prop
  | 0, _, _, _, _ => False
  | n + 1, s, x2, x3, x4 => (x4 ≤ 0 → w_X1_lineUp_92 N post K2 s x2 x3 x4) ∧ (¬ (x4 ≤ 0) → vp_in (x4 - 1) 7 ∧ vp_in (s.1 0 31 (x4 - 1).toNatClampNeg) 7 ∧ vp_in x3 7 ∧ ((s.1 0 30 (s.1 0 31 (x4 - 1).toNatClampNeg).toNatClampNeg) ≤ (s.1 0 30 x3.toNatClampNeg) → w_X1_lineUp_92 N post K2 s x2 x3 x4) ∧ (¬ ((s.1 0 30 (s.1 0 31 (x4 - 1).toNatClampNeg).toNatClampNeg) ≤ (s.1 0 30 x3.toNatClampNeg)) → vp_in (x4 - 1) 7 ∧ vp_in x4 7 ∧ ∀ s_18, s_18 = setI s 0 31 x4.toNatClampNeg (s.1 0 31 (x4 - 1).toNatClampNeg) → ∀ x_19 : Int32, x_19 = x4 + (-1) → w_X1_lineUp_42 N post K2 n s_18 x2 x3 x_19))
def w_X1_lineUp_2 (N : Nat) (post : Sx → Prop) : Nat → Sx → Int32 → Int32 → Prop
  | 0, _, _, _ => False
  | n + 1, s, x2, x3 => ((s.1 0 1 4) ≤ x3 → post s) ∧ (¬ ((s.1 0 1 4) ≤ x3) → vp_in x2 3 ∧ vp_in x2 3 ∧ w_X0_far N x3 (s.1 0 26 x2.toNatClampNeg) (s.1 0 27 x2.toNatClampNeg) s (fun r_5 s_4 => vp_in x3 7 ∧ ∀ s_7, s_7 = setI s_4 0 30 x3.toNatClampNeg ((r_5 + 7) / 8) → w_X1_lineUp_42 N post (w_X1_lineUp_2 N post n) N s_7 x2 x3 x3))
def w_X1_lineUp (N : Nat) (x2 : Int32) (s : Sx) (post : Sx → Prop) : Prop := w_X1_lineUp_2 N post N s x2 0
set_option maxHeartbeats 4000000 in
theorem b_X1_lineUp_92 {X : Kx} {a : Ax} {N : Nat} {post : Sx → Prop} {K2 : Sx → Int32 → Int32 → Prop}  (hC : Cx X cX1_lineUp 5 RX1) (hR : X.R = { frames := 2, cells := 0, slots := 0, locals := 43 }) (hQ : X.Q = MQ X.below (Qv X.G a post) X.av X.s 0 0 (bs_ X.G)) (hr : X.meth.sig.returnType = none)  (hK2 : ∀ (s : Sx) (x2 : Int32) (x3 : Int32), K2 s x2 x3 → wk X a s 5 2 [(0, .ref (adr X.G a 0 25)), (1, .ref (adr X.G a 0 1)), (2, .int x2), (3, .int x3)] [] 0 0) (s : Sx) (x2 : Int32) (x3 : Int32) (x4 : Int32) (h : w_X1_lineUp_92 N post K2 s x2 x3 x4) : wk X a s 5 92 [(0, .ref (adr X.G a 0 25)), (1, .ref (adr X.G a 0 1)), (2, .int x2), (3, .int x3), (4, .int x4)] [] 0 0 := by
  unfold w_X1_lineUp_92 at h
  refine k_aload_n hC (pc := 92) dX1_lineUp_92 0 rfl ?_
  refine gf_X1_6 hC (pc := 93)  fl_RX1_27 dX1_lineUp_93 ?_
  refine k_iload hC (pc := 96) dX1_lineUp_96 4 rfl ?_
  refine k_iload_n hC (pc := 98) dX1_lineUp_98 3 rfl ?_
  obtain ⟨c_9, h⟩ := h
  refine r_iast hC (pc := 99) ra0_31 c_9 dX1_lineUp_99 (fun s_10 h_s_10 => ?_)
  have h := h s_10 h_s_10
  obtain ⟨x_11, h_x_11⟩ : ∃ z : Int32, z = x3 + 1 := ⟨_, rfl⟩
  have h := h x_11 h_x_11
  refine k_iincw hC (pc := 100) dX1_lineUp_100 3 rfl ic_1 h_x_11.symm [(3, .int x_11), (0, .ref (adr X.G a 0 25)), (1, .ref (adr X.G a 0 1)), (2, .int x2), (4, .int x4)] (by decide) rfl ?_
  refine k_goto hC (pc := 103) 2 dX1_lineUp_103 (by decide) ?_
  refine k_sub [(0, .ref (adr X.G a 0 25)), (1, .ref (adr X.G a 0 1)), (2, .int x2), (3, .int x_11)] [1, 2, 3, 0] rfl ?_
  exact hK2 _ _ _ h
set_option maxHeartbeats 4000000 in
theorem b_X1_lineUp_42 {X : Kx} {a : Ax} {N : Nat} {post : Sx → Prop} {K2 : Sx → Int32 → Int32 → Prop}  (hC : Cx X cX1_lineUp 5 RX1) (hR : X.R = { frames := 2, cells := 0, slots := 0, locals := 43 }) (hQ : X.Q = MQ X.below (Qv X.G a post) X.av X.s 0 0 (bs_ X.G)) (hr : X.meth.sig.returnType = none)  (hK2 : ∀ (s : Sx) (x2 : Int32) (x3 : Int32), K2 s x2 x3 → wk X a s 5 2 [(0, .ref (adr X.G a 0 25)), (1, .ref (adr X.G a 0 1)), (2, .int x2), (3, .int x3)] [] 0 0) : ∀ (n : Nat) (s : Sx) (x2 : Int32) (x3 : Int32) (x4 : Int32), w_X1_lineUp_42 N post K2 n s x2 x3 x4 → wk X a s 5 42 [(0, .ref (adr X.G a 0 25)), (1, .ref (adr X.G a 0 1)), (2, .int x2), (3, .int x3), (4, .int x4)] [] 0 0 := by
  intro n
  induction n with
  | zero => intro s x2 x3 x4 h; exact h.elim
  | succ n ih =>
    intro s x2 x3 x4 h
    unfold w_X1_lineUp_42 at h
    refine k_iload hC (pc := 42) dX1_lineUp_42 4 rfl ?_
    refine k_if_le hC (pc := 44) 92 dX1_lineUp_44 (by decide) (fun c_8 => ?_) (fun c_8 => ?_)
    · have h := h.1 c_8
      exact b_X1_lineUp_92 hC hR hQ hr hK2 _ _ _ _ h
    · have h := h.2 c_8
      refine k_aload_n hC (pc := 47) dX1_lineUp_47 0 rfl ?_
      refine gf_X1_5 hC (pc := 48)  fl_RX1_24 dX1_lineUp_48 ?_
      refine k_aload_n hC (pc := 51) dX1_lineUp_51 0 rfl ?_
      refine gf_X1_6 hC (pc := 52)  fl_RX1_27 dX1_lineUp_52 ?_
      refine k_iload hC (pc := 55) dX1_lineUp_55 4 rfl ?_
      refine k_iconst hC (pc := 57) (v := 1) dX1_lineUp_57 ic_1 ?_
      refine k_isub hC (pc := 58) dX1_lineUp_58 ?_
      obtain ⟨c_12, h⟩ := h
      refine r_iald hC (pc := 59) ra0_31 c_12 dX1_lineUp_59 ?_
      obtain ⟨c_13, h⟩ := h
      refine r_iald hC (pc := 60) ra0_30 c_13 dX1_lineUp_60 ?_
      refine k_aload_n hC (pc := 61) dX1_lineUp_61 0 rfl ?_
      refine gf_X1_5 hC (pc := 62)  fl_RX1_24 dX1_lineUp_62 ?_
      refine k_iload_n hC (pc := 65) dX1_lineUp_65 3 rfl ?_
      obtain ⟨c_14, h⟩ := h
      refine r_iald hC (pc := 66) ra0_30 c_14 dX1_lineUp_66 ?_
      refine k_icmp_le hC (pc := 67) 92 dX1_lineUp_67 (by decide) (fun c_15 => ?_) (fun c_15 => ?_)
      · have h := h.1 c_15
        exact b_X1_lineUp_92 hC hR hQ hr hK2 _ _ _ _ h
      · have h := h.2 c_15
        refine k_aload_n hC (pc := 70) dX1_lineUp_70 0 rfl ?_
        refine gf_X1_6 hC (pc := 71)  fl_RX1_27 dX1_lineUp_71 ?_
        refine k_iload hC (pc := 74) dX1_lineUp_74 4 rfl ?_
        refine k_aload_n hC (pc := 76) dX1_lineUp_76 0 rfl ?_
        refine gf_X1_6 hC (pc := 77)  fl_RX1_27 dX1_lineUp_77 ?_
        refine k_iload hC (pc := 80) dX1_lineUp_80 4 rfl ?_
        refine k_iconst hC (pc := 82) (v := 1) dX1_lineUp_82 ic_1 ?_
        refine k_isub hC (pc := 83) dX1_lineUp_83 ?_
        obtain ⟨c_16, h⟩ := h
        refine r_iald hC (pc := 84) ra0_31 c_16 dX1_lineUp_84 ?_
        obtain ⟨c_17, h⟩ := h
        refine r_iast hC (pc := 85) ra0_31 c_17 dX1_lineUp_85 (fun s_18 h_s_18 => ?_)
        have h := h s_18 h_s_18
        obtain ⟨x_19, h_x_19⟩ : ∃ z : Int32, z = x4 + (-1) := ⟨_, rfl⟩
        have h := h x_19 h_x_19
        refine k_iincw hC (pc := 86) dX1_lineUp_86 4 rfl ic_m1 h_x_19.symm [(4, .int x_19), (0, .ref (adr X.G a 0 25)), (1, .ref (adr X.G a 0 1)), (2, .int x2), (3, .int x3)] (by decide) rfl ?_
        refine k_goto hC (pc := 89) 42 dX1_lineUp_89 (by decide) ?_
        refine k_sub [(0, .ref (adr X.G a 0 25)), (1, .ref (adr X.G a 0 1)), (2, .int x2), (3, .int x3), (4, .int x_19)] [1, 2, 3, 4, 0] rfl ?_
        exact ih _ _ _ _ h
set_option maxHeartbeats 4000000 in
theorem b_X1_lineUp_2 {X : Kx} {a : Ax} {N : Nat} {post : Sx → Prop}  (hC : Cx X cX1_lineUp 5 RX1) (hR : X.R = { frames := 2, cells := 0, slots := 0, locals := 43 }) (hQ : X.Q = MQ X.below (Qv X.G a post) X.av X.s 0 0 (bs_ X.G)) (hr : X.meth.sig.returnType = none)   : ∀ (n : Nat) (s : Sx) (x2 : Int32) (x3 : Int32), w_X1_lineUp_2 N post  n s x2 x3 → wk X a s 5 2 [(0, .ref (adr X.G a 0 25)), (1, .ref (adr X.G a 0 1)), (2, .int x2), (3, .int x3)] [] 0 0 := by
  intro n
  induction n with
  | zero => intro s x2 x3 h; exact h.elim
  | succ n ih =>
    intro s x2 x3 h
    unfold w_X1_lineUp_2 at h
    refine k_iload_n hC (pc := 2) dX1_lineUp_2 3 rfl ?_
    refine k_aload_n hC (pc := 3) dX1_lineUp_3 1 rfl ?_
    refine gf_X0_4 hC (pc := 4)  fl_RX1_41 dX1_lineUp_4 ?_
    refine k_icmp_ge hC (pc := 7) 106 dX1_lineUp_7 (by decide) (fun c_1 => ?_) (fun c_1 => ?_)
    · have h := h.1 c_1
      exact k_vret hC (pc := 106) hQ hr dX1_lineUp_106 h
    · have h := h.2 c_1
      refine k_aload_n hC (pc := 10) dX1_lineUp_10 0 rfl ?_
      refine gf_X1_5 hC (pc := 11)  fl_RX1_24 dX1_lineUp_11 ?_
      refine k_iload_n hC (pc := 14) dX1_lineUp_14 3 rfl ?_
      refine k_aload_n hC (pc := 15) dX1_lineUp_15 1 rfl ?_
      refine k_iload_n hC (pc := 16) dX1_lineUp_16 3 rfl ?_
      refine k_aload_n hC (pc := 17) dX1_lineUp_17 0 rfl ?_
      refine gf_X1_0 hC (pc := 18)  fl_RX1_11 dX1_lineUp_18 ?_
      refine k_iload_n hC (pc := 21) dX1_lineUp_21 2 rfl ?_
      obtain ⟨c_2, h⟩ := h
      refine r_iald hC (pc := 22) ra0_26 c_2 dX1_lineUp_22 ?_
      refine k_aload_n hC (pc := 23) dX1_lineUp_23 0 rfl ?_
      refine gf_X1_1 hC (pc := 24)  fl_RX1_15 dX1_lineUp_24 ?_
      refine k_iload_n hC (pc := 27) dX1_lineUp_27 2 rfl ?_
      obtain ⟨c_3, h⟩ := h
      refine r_iald hC (pc := 28) ra0_27 c_3 dX1_lineUp_28 ?_
      refine k_ci (rn_V hC (pc := 29) (As := [.int x3, .int (s.1 0 26 x2.toNatClampNeg), .int (s.1 0 27 x2.toNatClampNeg)]) (rest := [.int x3, .ref (adr X.G a 0 30)]) ca_X0_far ml_RX1_85 im_X0_far se_X0_far (fx_in f0_1) (ob0_1 _ _ _ _ _) rfl rfl (ct_X0_far x3 (s.1 0 26 x2.toNatClampNeg) (s.1 0 27 x2.toNatClampNeg) h) (by rw [hR]; exact ⟨rfl, rfl, by decide, by decide⟩) rfl (Nat.le_of_ble_eq_true rfl) dX1_lineUp_29 ⟨by rw [hR]; decide, by rw [hR]; decide⟩) (fun r_5 s_4 h => ?_)
      refine k_bipush hC (pc := 32) (v := 7) dX1_lineUp_32 bp_7 ?_
      refine k_iadd hC (pc := 34) dX1_lineUp_34 ?_
      refine k_bipush hC (pc := 35) (v := 8) dX1_lineUp_35 bp_8 ?_
      refine k_idiv hC (pc := 37) dX1_lineUp_37 (by decide) ?_
      obtain ⟨c_6, h⟩ := h
      refine r_iast hC (pc := 38) ra0_30 c_6 dX1_lineUp_38 (fun s_7 h_s_7 => ?_)
      have h := h s_7 h_s_7
      refine k_iload_n hC (pc := 39) dX1_lineUp_39 3 rfl ?_
      refine k_istore hC (pc := 40) dX1_lineUp_40 [(4, .int x3), (0, .ref (adr X.G a 0 25)), (1, .ref (adr X.G a 0 1)), (2, .int x2), (3, .int x3)] (by decide) rfl ?_
      refine k_sub [(0, .ref (adr X.G a 0 25)), (1, .ref (adr X.G a 0 1)), (2, .int x2), (3, .int x3), (4, .int x3)] [1, 2, 3, 4, 0] rfl ?_
      exact b_X1_lineUp_42 hC hR hQ hr ih N _ _ _ _ h
set_option maxHeartbeats 4000000 in
theorem b_X1_lineUp {X : Kx} {a : Ax} {N : Nat} {post : Sx → Prop} (hC : Cx X cX1_lineUp 5 RX1) (hR : X.R = { frames := 2, cells := 0, slots := 0, locals := 43 }) (hQ : X.Q = MQ X.below (Qv X.G a post) X.av X.s 0 0 (bs_ X.G)) (hr : X.meth.sig.returnType = none) (hn : X.meth.name = "lineUp") (s : Sx) (x2 : Int32) (h : w_X1_lineUp N x2 s post) : wk X a s 5 0 [(0, .ref (adr X.G a 0 25)), (1, .ref (adr X.G a 0 1)), (2, .int x2)] [] 0 0 := by
  unfold w_X1_lineUp at h
  refine k_iconst hC (pc := 0) (v := 0) dX1_lineUp_0 ic_0 ?_
  refine k_istore_n hC (pc := 1) dX1_lineUp_1 [(3, .int 0), (0, .ref (adr X.G a 0 25)), (1, .ref (adr X.G a 0 1)), (2, .int x2)] (by decide) rfl ?_
  refine k_sub [(0, .ref (adr X.G a 0 25)), (1, .ref (adr X.G a 0 1)), (2, .int x2), (3, .int 0)] [1, 2, 3, 0] rfl ?_
  exact b_X1_lineUp_2 hC hR hQ hr N _ _ _ h
theorem ct_X1_lineUp {l : Launch} {G : Gx} {a : Ax} {s : Sx} {N : Nat} {post : Sx → Prop} (x2 : Int32) (h : w_X1_lineUp N x2 s post) : Met l yX1_lineUp (Cond.code yX1_lineUp cX1_lineUp 5 none :: gw) { frames := 2, cells := 0, slots := 0, locals := 43 } (va_Pc [.ref (adr G a 0 25), .ref (adr G a 0 1), .int x2] (fun U => FU G a s U)) (Qv G a post) 0 0 (bs_ G) := met_of (plainFor_of_name (by decide)) (Nat.le_of_ble_eq_true rfl) rfl (fun X hC hl hR hQ hr hG hn => by subst hG; exact b_X1_lineUp hC hR hQ hr hn s x2 h)
theorem ca_X1_lineUp : Ca yX1_lineUp cX1_lineUp 5 none 2 := ⟨cd_X1_lineUp, ii_RX1, by decide, by decide, by decide +kernel⟩
def w_X11_remainder (N : Nat) (x0 : Int32) (x1 : Int32) (s : Sx) (post : Int32 → Sx → Prop) : Prop := (1 ≤ x1 → w_J9_floorMod_7cf53 N x0 x1 s (fun r_3 s_2 => post r_3 s_2)) ∧ (¬ (1 ≤ x1) → post 0 s)
set_option maxHeartbeats 4000000 in
theorem b_X11_remainder {X : Kx} {a : Ax} {N : Nat} {post : Int32 → Sx → Prop} (hC : Cx X cX11_remainder 2 RX11) (hR : X.R = { frames := 1, cells := 0, slots := 0, locals := 22 }) (hQ : X.Q = MQ X.below (Qi X.G a post) X.av X.s 0 0 (bs_ X.G)) (hr : X.meth.sig.returnType = (some .int)) (hn : X.meth.name = "remainder") (s : Sx) (x0 : Int32) (x1 : Int32) (h : w_X11_remainder N x0 x1 s post) : wk X a s 2 0 [(0, .int x0), (1, .int x1)] [] 0 0 := by
  unfold w_X11_remainder at h
  refine k_iload_n hC (pc := 0) dX11_remainder_0 1 rfl ?_
  refine k_iconst hC (pc := 1) (v := 1) dX11_remainder_1 ic_1 ?_
  refine k_icmp_ge hC (pc := 2) 9 dX11_remainder_2 (by decide) (fun c_1 => ?_) (fun c_1 => ?_)
  · have h := h.1 c_1
    refine k_iload_n hC (pc := 9) dX11_remainder_9 0 rfl ?_
    refine k_iload_n hC (pc := 10) dX11_remainder_10 1 rfl ?_
    refine k_ci (rn_S hC (pc := 11) (As := [.int x0, .int x1]) (rest := []) ca_J9_floorMod_7cf53 ml_RX11_382 sm_J9_floorMod_7cf53 (ct_J9_floorMod_7cf53 x0 x1 h) (by rw [hR]; exact ⟨rfl, rfl, by decide, by decide⟩) rfl (Nat.le_of_ble_eq_true rfl) dX11_remainder_11 ⟨by rw [hR]; decide, by rw [hR]; decide⟩) (fun r_3 s_2 h => ?_)
    exact k_iret hC (pc := 14) hQ hr dX11_remainder_14 h
  · have h := h.2 c_1
    refine k_iconst hC (pc := 5) (v := 0) dX11_remainder_5 ic_0 ?_
    refine k_goto hC (pc := 6) 14 dX11_remainder_6 (by decide) ?_
    exact k_iret hC (pc := 14) hQ hr dX11_remainder_14 h
theorem ct_X11_remainder {l : Launch} {G : Gx} {a : Ax} {s : Sx} {N : Nat} {post : Int32 → Sx → Prop} (x0 : Int32) (x1 : Int32) (h : w_X11_remainder N x0 x1 s post) : Met l yX11_remainder (Cond.code yX11_remainder cX11_remainder 2 (some .int) :: gw) { frames := 1, cells := 0, slots := 0, locals := 22 } (va_Pc [.int x0, .int x1] (fun U => FU G a s U)) (Qi G a post) 0 0 (bs_ G) := met_of (plainFor_of_name (by decide)) (Nat.le_of_ble_eq_true rfl) rfl (fun X hC hl hR hQ hr hG hn => by subst hG; exact b_X11_remainder hC hR hQ hr hn s x0 x1 h)
theorem ca_X11_remainder : Ca yX11_remainder cX11_remainder 2 (some .int) 2 := ⟨cd_X11_remainder, ii_RX11, by decide, by decide, by decide +kernel⟩
def w_X11_quotient (N : Nat) (x0 : Int64) (x2 : Int64) (s : Sx) (post : Int64 → Sx → Prop) : Prop := (¬ (lg_cmp x2 0) = 0 → ¬ x2 = 0 ∧ post (x0 / x2) s) ∧ (¬ (¬ (lg_cmp x2 0) = 0) → post 0 s)
set_option maxHeartbeats 4000000 in
theorem b_X11_quotient {X : Kx} {a : Ax} {N : Nat} {post : Int64 → Sx → Prop} (hC : Cx X cX11_quotient 4 RX11) (hR : X.R = { frames := 0, cells := 0, slots := 0, locals := 0 }) (hQ : X.Q = MQ X.below (Ql X.G a post) X.av X.s 0 0 (bs_ X.G)) (hr : X.meth.sig.returnType = (some .long)) (hn : X.meth.name = "quotient") (s : Sx) (x0 : Int64) (x2 : Int64) (h : w_X11_quotient N x0 x2 s post) : wk X a s 4 0 [(0, .long x0), (2, .long x2)] [] 0 0 := by
  unfold w_X11_quotient at h
  refine k_lload_n hC (pc := 0) dX11_quotient_0 1 rfl ?_
  refine k_lconst hC (pc := 1) (v := 0) dX11_quotient_1 rfl ?_
  refine k_lcmp hC (pc := 2) dX11_quotient_2 ?_
  refine k_if_ne hC (pc := 3) 10 dX11_quotient_3 (by decide) (fun c_1 => ?_) (fun c_1 => ?_)
  · have h := h.1 c_1
    refine k_lload_n hC (pc := 10) dX11_quotient_10 0 rfl ?_
    refine k_lload_n hC (pc := 11) dX11_quotient_11 1 rfl ?_
    obtain ⟨c_2, h⟩ := h
    refine k_ldiv hC (pc := 12) dX11_quotient_12 c_2 ?_
    exact k_lret hC (pc := 13) hQ hr dX11_quotient_13 h
  · have h := h.2 c_1
    refine k_lconst hC (pc := 6) (v := 0) dX11_quotient_6 rfl ?_
    refine k_goto hC (pc := 7) 13 dX11_quotient_7 (by decide) ?_
    exact k_lret hC (pc := 13) hQ hr dX11_quotient_13 h
theorem ct_X11_quotient {l : Launch} {G : Gx} {a : Ax} {s : Sx} {N : Nat} {post : Int64 → Sx → Prop} (x0 : Int64) (x2 : Int64) (h : w_X11_quotient N x0 x2 s post) : Met l yX11_quotient (Cond.code yX11_quotient cX11_quotient 4 (some .long) :: gw) { frames := 0, cells := 0, slots := 0, locals := 0 } (va_Pc [.long x0, .long x2] (fun U => FU G a s U)) (Ql G a post) 0 0 (bs_ G) := met_of (plainFor_of_name (by decide)) (Nat.le_of_ble_eq_true rfl) rfl (fun X hC hl hR hQ hr hG hn => by subst hG; exact b_X11_quotient hC hR hQ hr hn s x0 x2 h)
theorem ca_X11_quotient : Ca yX11_quotient cX11_quotient 4 (some .long) 2 := ⟨cd_X11_quotient, ii_RX11, by decide, by decide, by decide +kernel⟩
def w_X1_goersTo_45 (N : Nat) (post : Int32 → Sx → Prop) (K14 : Sx → Int32 → Int32 → Int32 → Int32 → Prop) (s : Sx) (x2 : Int32) (x4 : Int32) (x5 : Int32) (x6 : Int32) : Prop := w_X11_quotient N x5.toInt64 (((s.1 0 25 4) + 1).toInt64) s (fun r_7 s_6 => ∀ x_8 : Int32, x_8 = r_7.toInt32 → ∀ x_9 : Int32, x_9 = x6 + (-1) → K14 s_6 x2 x4 x_8 x_9)
def w_X1_goersTo_14 (N : Nat) (post : Int32 → Sx → Prop) : Nat → Sx → Int32 → Int32 → Int32 → Int32 → Prop
  | 0, _, _, _, _, _ => False
  | n + 1, s, x2, x4, x5, x6 => (x6 < 0 → post x4 s) ∧ (¬ (x6 < 0) → w_X11_remainder N x5 ((s.1 0 25 4) + 1) s (fun r_4 s_3 => (¬ r_4 = (x2 + 1) → w_X1_goersTo_45 N post (w_X1_goersTo_14 N post n) s_3 x2 x4 x5 x6) ∧ (¬ (¬ r_4 = (x2 + 1)) → ∀ x_10 : Int32, x_10 = x4 ||| (1 <<< (x6 &&& 31)) → w_X1_goersTo_45 N post (w_X1_goersTo_14 N post n) s_3 x2 x_10 x5 x6)))
def w_X1_goersTo (N : Nat) (x2 : Int32) (x3 : Int32) (s : Sx) (post : Int32 → Sx → Prop) : Prop := ∀ x_1 : Int32, x_1 = (s.1 0 1 4) - 1 → w_X1_goersTo_14 N post N s x2 0 x3 x_1
set_option maxHeartbeats 4000000 in
theorem b_X1_goersTo_45 {X : Kx} {a : Ax} {N : Nat} {post : Int32 → Sx → Prop} {K14 : Sx → Int32 → Int32 → Int32 → Int32 → Prop}  (hC : Cx X cX1_goersTo 7 RX1) (hR : X.R = { frames := 2, cells := 0, slots := 0, locals := 43 }) (hQ : X.Q = MQ X.below (Qi X.G a post) X.av X.s 0 0 (bs_ X.G)) (hr : X.meth.sig.returnType = (some .int))  (hK14 : ∀ (s : Sx) (x2 : Int32) (x4 : Int32) (x5 : Int32) (x6 : Int32), K14 s x2 x4 x5 x6 → wk X a s 7 14 [(0, .ref (adr X.G a 0 25)), (2, .int x2), (4, .int x4), (5, .int x5), (6, .int x6)] [] 0 0) (s : Sx) (x2 : Int32) (x4 : Int32) (x5 : Int32) (x6 : Int32) (h : w_X1_goersTo_45 N post K14 s x2 x4 x5 x6) : wk X a s 7 45 [(0, .ref (adr X.G a 0 25)), (2, .int x2), (4, .int x4), (5, .int x5), (6, .int x6)] [] 0 0 := by
  unfold w_X1_goersTo_45 at h
  refine k_iload hC (pc := 45) dX1_goersTo_45 3 rfl ?_
  refine k_i2l hC (pc := 47) dX1_goersTo_47 ?_
  refine k_aload_n hC (pc := 48) dX1_goersTo_48 0 rfl ?_
  refine gf_X1_4 hC (pc := 49)  fl_RX1_37 dX1_goersTo_49 ?_
  refine k_iconst hC (pc := 52) (v := 1) dX1_goersTo_52 ic_1 ?_
  refine k_iadd hC (pc := 53) dX1_goersTo_53 ?_
  refine k_i2l hC (pc := 54) dX1_goersTo_54 ?_
  refine k_cl (rn_SN hC (pc := 55) (As := [.long x5.toInt64, .long (((s.1 0 25 4) + 1).toInt64)]) (rest := []) ca_X11_quotient nl_RX1_98 sm_X11_quotient (ct_X11_quotient x5.toInt64 (((s.1 0 25 4) + 1).toInt64) h) (by rw [hR]; exact ⟨rfl, rfl, by decide, by decide⟩) rfl (Nat.le_of_ble_eq_true rfl) dX1_goersTo_55 ⟨by rw [hR]; decide, by rw [hR]; decide⟩) (fun r_7 s_6 h => ?_)
  refine k_l2i hC (pc := 58) dX1_goersTo_58 ?_
  refine k_topi (fun x_8 h_x_8 => ?_)
  have h := h x_8 h_x_8
  refine k_istore hC (pc := 59) dX1_goersTo_59 [(5, .int x_8), (0, .ref (adr X.G a 0 25)), (2, .int x2), (4, .int x4), (6, .int x6)] (by decide) rfl ?_
  obtain ⟨x_9, h_x_9⟩ : ∃ z : Int32, z = x6 + (-1) := ⟨_, rfl⟩
  have h := h x_9 h_x_9
  refine k_iincw hC (pc := 61) dX1_goersTo_61 4 rfl ic_m1 h_x_9.symm [(6, .int x_9), (5, .int x_8), (0, .ref (adr X.G a 0 25)), (2, .int x2), (4, .int x4)] (by decide) rfl ?_
  refine k_goto hC (pc := 64) 14 dX1_goersTo_64 (by decide) ?_
  refine k_sub [(0, .ref (adr X.G a 0 25)), (2, .int x2), (4, .int x4), (5, .int x_8), (6, .int x_9)] [2, 3, 4, 1, 0] rfl ?_
  exact hK14 _ _ _ _ _ h
set_option maxHeartbeats 4000000 in
theorem b_X1_goersTo_14 {X : Kx} {a : Ax} {N : Nat} {post : Int32 → Sx → Prop}  (hC : Cx X cX1_goersTo 7 RX1) (hR : X.R = { frames := 2, cells := 0, slots := 0, locals := 43 }) (hQ : X.Q = MQ X.below (Qi X.G a post) X.av X.s 0 0 (bs_ X.G)) (hr : X.meth.sig.returnType = (some .int))   : ∀ (n : Nat) (s : Sx) (x2 : Int32) (x4 : Int32) (x5 : Int32) (x6 : Int32), w_X1_goersTo_14 N post  n s x2 x4 x5 x6 → wk X a s 7 14 [(0, .ref (adr X.G a 0 25)), (2, .int x2), (4, .int x4), (5, .int x5), (6, .int x6)] [] 0 0 := by
  intro n
  induction n with
  | zero => intro s x2 x4 x5 x6 h; exact h.elim
  | succ n ih =>
    intro s x2 x4 x5 x6 h
    unfold w_X1_goersTo_14 at h
    refine k_iload hC (pc := 14) dX1_goersTo_14 4 rfl ?_
    refine k_if_lt hC (pc := 16) 67 dX1_goersTo_16 (by decide) (fun c_2 => ?_) (fun c_2 => ?_)
    · have h := h.1 c_2
      refine k_iload hC (pc := 67) dX1_goersTo_67 2 rfl ?_
      exact k_iret hC (pc := 69) hQ hr dX1_goersTo_69 h
    · have h := h.2 c_2
      refine k_iload hC (pc := 19) dX1_goersTo_19 3 rfl ?_
      refine k_aload_n hC (pc := 21) dX1_goersTo_21 0 rfl ?_
      refine gf_X1_4 hC (pc := 22)  fl_RX1_37 dX1_goersTo_22 ?_
      refine k_iconst hC (pc := 25) (v := 1) dX1_goersTo_25 ic_1 ?_
      refine k_iadd hC (pc := 26) dX1_goersTo_26 ?_
      refine k_ci (rn_SN hC (pc := 27) (As := [.int x5, .int ((s.1 0 25 4) + 1)]) (rest := []) ca_X11_remainder nl_RX1_95 sm_X11_remainder (ct_X11_remainder x5 ((s.1 0 25 4) + 1) h) (by rw [hR]; exact ⟨rfl, rfl, by decide, by decide⟩) rfl (Nat.le_of_ble_eq_true rfl) dX1_goersTo_27 ⟨by rw [hR]; decide, by rw [hR]; decide⟩) (fun r_4 s_3 h => ?_)
      refine k_iload_n hC (pc := 30) dX1_goersTo_30 1 rfl ?_
      refine k_iconst hC (pc := 31) (v := 1) dX1_goersTo_31 ic_1 ?_
      refine k_iadd hC (pc := 32) dX1_goersTo_32 ?_
      refine k_icmp_ne hC (pc := 33) 45 dX1_goersTo_33 (by decide) (fun c_5 => ?_) (fun c_5 => ?_)
      · have h := h.1 c_5
        exact b_X1_goersTo_45 hC hR hQ hr ih _ _ _ _ _ h
      · have h := h.2 c_5
        refine k_iload hC (pc := 36) dX1_goersTo_36 2 rfl ?_
        refine k_iconst hC (pc := 38) (v := 1) dX1_goersTo_38 ic_1 ?_
        refine k_iload hC (pc := 39) dX1_goersTo_39 4 rfl ?_
        refine k_ishl hC (pc := 41) dX1_goersTo_41 ?_
        refine k_ior hC (pc := 42) dX1_goersTo_42 ?_
        refine k_topi (fun x_10 h_x_10 => ?_)
        have h := h x_10 h_x_10
        refine k_istore hC (pc := 43) dX1_goersTo_43 [(4, .int x_10), (0, .ref (adr X.G a 0 25)), (2, .int x2), (5, .int x5), (6, .int x6)] (by decide) rfl ?_
        refine k_sub [(0, .ref (adr X.G a 0 25)), (2, .int x2), (4, .int x_10), (5, .int x5), (6, .int x6)] [1, 2, 0, 3, 4] rfl ?_
        exact b_X1_goersTo_45 hC hR hQ hr ih _ _ _ _ _ h
set_option maxHeartbeats 4000000 in
theorem b_X1_goersTo {X : Kx} {a : Ax} {N : Nat} {post : Int32 → Sx → Prop} (hC : Cx X cX1_goersTo 7 RX1) (hR : X.R = { frames := 2, cells := 0, slots := 0, locals := 43 }) (hQ : X.Q = MQ X.below (Qi X.G a post) X.av X.s 0 0 (bs_ X.G)) (hr : X.meth.sig.returnType = (some .int)) (hn : X.meth.name = "goersTo") (s : Sx) (x2 : Int32) (x3 : Int32) (h : w_X1_goersTo N x2 x3 s post) : wk X a s 7 0 [(0, .ref (adr X.G a 0 25)), (1, .ref (adr X.G a 0 1)), (2, .int x2), (3, .int x3)] [] 0 0 := by
  unfold w_X1_goersTo at h
  refine k_iconst hC (pc := 0) (v := 0) dX1_goersTo_0 ic_0 ?_
  refine k_istore hC (pc := 1) dX1_goersTo_1 [(4, .int 0), (0, .ref (adr X.G a 0 25)), (1, .ref (adr X.G a 0 1)), (2, .int x2), (3, .int x3)] (by decide) rfl ?_
  refine k_iload_n hC (pc := 3) dX1_goersTo_3 4 rfl ?_
  refine k_istore hC (pc := 4) dX1_goersTo_4 [(5, .int x3), (4, .int 0), (0, .ref (adr X.G a 0 25)), (1, .ref (adr X.G a 0 1)), (2, .int x2), (3, .int x3)] (by decide) rfl ?_
  refine k_aload_n hC (pc := 6) dX1_goersTo_6 3 rfl ?_
  refine gf_X0_4 hC (pc := 7)  fl_RX1_41 dX1_goersTo_7 ?_
  refine k_iconst hC (pc := 10) (v := 1) dX1_goersTo_10 ic_1 ?_
  refine k_isub hC (pc := 11) dX1_goersTo_11 ?_
  refine k_topi (fun x_1 h_x_1 => ?_)
  have h := h x_1 h_x_1
  refine k_istore hC (pc := 12) dX1_goersTo_12 [(6, .int x_1), (5, .int x3), (4, .int 0), (0, .ref (adr X.G a 0 25)), (1, .ref (adr X.G a 0 1)), (2, .int x2), (3, .int x3)] (by decide) rfl ?_
  refine k_sub [(0, .ref (adr X.G a 0 25)), (2, .int x2), (4, .int 0), (5, .int x3), (6, .int x_1)] [3, 5, 2, 1, 0] rfl ?_
  exact b_X1_goersTo_14 hC hR hQ hr N _ _ _ _ _ h
theorem ct_X1_goersTo {l : Launch} {G : Gx} {a : Ax} {s : Sx} {N : Nat} {post : Int32 → Sx → Prop} (x2 : Int32) (x3 : Int32) (h : w_X1_goersTo N x2 x3 s post) : Met l yX1_goersTo (Cond.code yX1_goersTo cX1_goersTo 7 (some .int) :: gw) { frames := 2, cells := 0, slots := 0, locals := 43 } (va_Pc [.ref (adr G a 0 25), .ref (adr G a 0 1), .int x2, .int x3] (fun U => FU G a s U)) (Qi G a post) 0 0 (bs_ G) := met_of (plainFor_of_name (by decide)) (Nat.le_of_ble_eq_true rfl) rfl (fun X hC hl hR hQ hr hG hn => by subst hG; exact b_X1_goersTo hC hR hQ hr hn s x2 x3 h)
theorem ca_X1_goersTo : Ca yX1_goersTo cX1_goersTo 7 (some .int) 3 := ⟨cd_X1_goersTo, ii_RX1, by decide, by decide, by decide +kernel⟩
def w_X1_lostAt_6 (N : Nat) (post : Int32 → Sx → Prop) : Nat → Sx → Int32 → Int32 → Int32 → Int32 → Prop
  | 0, _, _, _, _, _ => False
  | n + 1, s, x2, x3, x4, x5 => ((s.1 0 1 4) ≤ x5 → vp_in x2 3 ∧ post ((s.1 0 29 x2.toNatClampNeg) * 24) s) ∧ (¬ ((s.1 0 1 4) ≤ x5) → vp_in x5 7 ∧ ∀ x_4 : Int32, x_4 = s.1 0 31 x5.toNatClampNeg → (((x3 >>> (x_4 &&& 31)) &&& 1) = 0 → ∀ x_6 : Int32, x_6 = x5 + 1 → w_X1_lostAt_6 N post n s x2 x3 x4 x_6) ∧ (¬ (((x3 >>> (x_4 &&& 31)) &&& 1) = 0) → vp_in x_4 7 ∧ ∀ x_8 : Int32, x_8 = x4 + (s.1 0 5 x_4.toNatClampNeg) → vp_in x2 3 ∧ (x_8 < (s.1 0 28 x2.toNatClampNeg) → ∀ x_11 : Int32, x_11 = x5 + 1 → w_X1_lostAt_6 N post n s x2 x3 x_8 x_11) ∧ (¬ (x_8 < (s.1 0 28 x2.toNatClampNeg)) → vp_in x2 3 ∧ vp_in x_4 7 ∧ w_J9_min_7cf53 N (s.1 0 30 x_4.toNatClampNeg) 24 s (fun r_15 s_14 => post ((s.1 0 29 x2.toNatClampNeg) * r_15) s_14))))
def w_X1_lostAt (N : Nat) (x2 : Int32) (x3 : Int32) (s : Sx) (post : Int32 → Sx → Prop) : Prop := w_X1_lostAt_6 N post N s x2 x3 0 0
set_option maxHeartbeats 4000000 in
theorem b_X1_lostAt_6 {X : Kx} {a : Ax} {N : Nat} {post : Int32 → Sx → Prop}  (hC : Cx X cX1_lostAt 7 RX1) (hR : X.R = { frames := 1, cells := 0, slots := 0, locals := 21 }) (hQ : X.Q = MQ X.below (Qi X.G a post) X.av X.s 0 0 (bs_ X.G)) (hr : X.meth.sig.returnType = (some .int))   : ∀ (n : Nat) (s : Sx) (x2 : Int32) (x3 : Int32) (x4 : Int32) (x5 : Int32), w_X1_lostAt_6 N post  n s x2 x3 x4 x5 → wk X a s 7 6 [(0, .ref (adr X.G a 0 25)), (1, .ref (adr X.G a 0 1)), (2, .int x2), (3, .int x3), (4, .int x4), (5, .int x5)] [] 0 0 := by
  intro n
  induction n with
  | zero => intro s x2 x3 x4 x5 h; exact h.elim
  | succ n ih =>
    intro s x2 x3 x4 x5 h
    unfold w_X1_lostAt_6 at h
    refine k_iload hC (pc := 6) dX1_lostAt_6 5 rfl ?_
    refine k_aload_n hC (pc := 8) dX1_lostAt_8 1 rfl ?_
    refine gf_X0_4 hC (pc := 9)  fl_RX1_41 dX1_lostAt_9 ?_
    refine k_icmp_ge hC (pc := 12) 82 dX1_lostAt_12 (by decide) (fun c_1 => ?_) (fun c_1 => ?_)
    · have h := h.1 c_1
      refine k_aload_n hC (pc := 82) dX1_lostAt_82 0 rfl ?_
      refine gf_X1_3 hC (pc := 83)  fl_RX1_21 dX1_lostAt_83 ?_
      refine k_iload_n hC (pc := 86) dX1_lostAt_86 2 rfl ?_
      obtain ⟨c_2, h⟩ := h
      refine r_iald hC (pc := 87) ra0_29 c_2 dX1_lostAt_87 ?_
      refine k_bipush hC (pc := 88) (v := 24) dX1_lostAt_88 bp_24 ?_
      refine k_imul hC (pc := 90) dX1_lostAt_90 ?_
      exact k_iret hC (pc := 91) hQ hr dX1_lostAt_91 h
    · have h := h.2 c_1
      refine k_aload_n hC (pc := 15) dX1_lostAt_15 0 rfl ?_
      refine gf_X1_6 hC (pc := 16)  fl_RX1_27 dX1_lostAt_16 ?_
      refine k_iload hC (pc := 19) dX1_lostAt_19 5 rfl ?_
      obtain ⟨c_3, h⟩ := h
      refine r_iald hC (pc := 21) ra0_31 c_3 dX1_lostAt_21 ?_
      refine k_topi (fun x_4 h_x_4 => ?_)
      have h := h x_4 h_x_4
      refine k_istore hC (pc := 22) dX1_lostAt_22 [(6, .int x_4), (0, .ref (adr X.G a 0 25)), (1, .ref (adr X.G a 0 1)), (2, .int x2), (3, .int x3), (4, .int x4), (5, .int x5)] (by decide) rfl ?_
      refine k_iload_n hC (pc := 24) dX1_lostAt_24 4 rfl ?_
      refine k_iload hC (pc := 25) dX1_lostAt_25 0 rfl ?_
      refine k_ishr hC (pc := 27) dX1_lostAt_27 ?_
      refine k_iconst hC (pc := 28) (v := 1) dX1_lostAt_28 ic_1 ?_
      refine k_iand hC (pc := 29) dX1_lostAt_29 ?_
      refine k_if_eq hC (pc := 30) 76 dX1_lostAt_30 (by decide) (fun c_5 => ?_) (fun c_5 => ?_)
      · have h := h.1 c_5
        obtain ⟨x_6, h_x_6⟩ : ∃ z : Int32, z = x5 + 1 := ⟨_, rfl⟩
        have h := h x_6 h_x_6
        refine k_iincw hC (pc := 76) dX1_lostAt_76 6 rfl ic_1 h_x_6.symm [(5, .int x_6), (6, .int x_4), (0, .ref (adr X.G a 0 25)), (1, .ref (adr X.G a 0 1)), (2, .int x2), (3, .int x3), (4, .int x4)] (by decide) rfl ?_
        refine k_goto hC (pc := 79) 6 dX1_lostAt_79 (by decide) ?_
        refine k_sub [(0, .ref (adr X.G a 0 25)), (1, .ref (adr X.G a 0 1)), (2, .int x2), (3, .int x3), (4, .int x4), (5, .int x_6)] [2, 3, 4, 5, 6, 0] rfl ?_
        exact ih _ _ _ _ _ h
      · have h := h.2 c_5
        refine k_iload hC (pc := 33) dX1_lostAt_33 5 rfl ?_
        refine k_aload_n hC (pc := 35) dX1_lostAt_35 2 rfl ?_
        refine gf_X0_3 hC (pc := 36)  fl_RX1_89 dX1_lostAt_36 ?_
        refine k_iload hC (pc := 39) dX1_lostAt_39 0 rfl ?_
        obtain ⟨c_7, h⟩ := h
        refine r_iald hC (pc := 41) ra0_5 c_7 dX1_lostAt_41 ?_
        refine k_iadd hC (pc := 42) dX1_lostAt_42 ?_
        refine k_topi (fun x_8 h_x_8 => ?_)
        have h := h x_8 h_x_8
        refine k_istore hC (pc := 43) dX1_lostAt_43 [(4, .int x_8), (6, .int x_4), (0, .ref (adr X.G a 0 25)), (1, .ref (adr X.G a 0 1)), (2, .int x2), (3, .int x3), (5, .int x5)] (by decide) rfl ?_
        refine k_iload hC (pc := 45) dX1_lostAt_45 0 rfl ?_
        refine k_aload_n hC (pc := 47) dX1_lostAt_47 2 rfl ?_
        refine gf_X1_2 hC (pc := 48)  fl_RX1_18 dX1_lostAt_48 ?_
        refine k_iload_n hC (pc := 51) dX1_lostAt_51 4 rfl ?_
        obtain ⟨c_9, h⟩ := h
        refine r_iald hC (pc := 52) ra0_28 c_9 dX1_lostAt_52 ?_
        refine k_icmp_lt hC (pc := 53) 76 dX1_lostAt_53 (by decide) (fun c_10 => ?_) (fun c_10 => ?_)
        · have h := h.1 c_10
          obtain ⟨x_11, h_x_11⟩ : ∃ z : Int32, z = x5 + 1 := ⟨_, rfl⟩
          have h := h x_11 h_x_11
          refine k_iincw hC (pc := 76) dX1_lostAt_76 6 rfl ic_1 h_x_11.symm [(5, .int x_11), (4, .int x_8), (6, .int x_4), (0, .ref (adr X.G a 0 25)), (1, .ref (adr X.G a 0 1)), (2, .int x2), (3, .int x3)] (by decide) rfl ?_
          refine k_goto hC (pc := 79) 6 dX1_lostAt_79 (by decide) ?_
          refine k_sub [(0, .ref (adr X.G a 0 25)), (1, .ref (adr X.G a 0 1)), (2, .int x2), (3, .int x3), (4, .int x_8), (5, .int x_11)] [3, 4, 5, 6, 1, 0] rfl ?_
          exact ih _ _ _ _ _ h
        · have h := h.2 c_10
          refine k_aload_n hC (pc := 56) dX1_lostAt_56 2 rfl ?_
          refine gf_X1_3 hC (pc := 57)  fl_RX1_21 dX1_lostAt_57 ?_
          refine k_iload_n hC (pc := 60) dX1_lostAt_60 4 rfl ?_
          obtain ⟨c_12, h⟩ := h
          refine r_iald hC (pc := 61) ra0_29 c_12 dX1_lostAt_61 ?_
          refine k_aload_n hC (pc := 62) dX1_lostAt_62 2 rfl ?_
          refine gf_X1_5 hC (pc := 63)  fl_RX1_24 dX1_lostAt_63 ?_
          refine k_iload hC (pc := 66) dX1_lostAt_66 1 rfl ?_
          obtain ⟨c_13, h⟩ := h
          refine r_iald hC (pc := 68) ra0_30 c_13 dX1_lostAt_68 ?_
          refine k_bipush hC (pc := 69) (v := 24) dX1_lostAt_69 bp_24 ?_
          refine k_ci (rn_S hC (pc := 71) (As := [.int (s.1 0 30 x_4.toNatClampNeg), .int 24]) (rest := [.int (s.1 0 29 x2.toNatClampNeg)]) ca_J9_min_7cf53 ml_RX1_92 sm_J9_min_7cf53 (ct_J9_min_7cf53 (s.1 0 30 x_4.toNatClampNeg) 24 h) (by rw [hR]; exact ⟨rfl, rfl, by decide, by decide⟩) rfl (Nat.le_of_ble_eq_true rfl) dX1_lostAt_71 ⟨by rw [hR]; decide, by rw [hR]; decide⟩) (fun r_15 s_14 h => ?_)
          refine k_imul hC (pc := 74) dX1_lostAt_74 ?_
          exact k_iret hC (pc := 75) hQ hr dX1_lostAt_75 h
set_option maxHeartbeats 4000000 in
theorem b_X1_lostAt {X : Kx} {a : Ax} {N : Nat} {post : Int32 → Sx → Prop} (hC : Cx X cX1_lostAt 7 RX1) (hR : X.R = { frames := 1, cells := 0, slots := 0, locals := 21 }) (hQ : X.Q = MQ X.below (Qi X.G a post) X.av X.s 0 0 (bs_ X.G)) (hr : X.meth.sig.returnType = (some .int)) (hn : X.meth.name = "lostAt") (s : Sx) (x2 : Int32) (x3 : Int32) (h : w_X1_lostAt N x2 x3 s post) : wk X a s 7 0 [(0, .ref (adr X.G a 0 25)), (1, .ref (adr X.G a 0 1)), (2, .int x2), (3, .int x3)] [] 0 0 := by
  unfold w_X1_lostAt at h
  refine k_iconst hC (pc := 0) (v := 0) dX1_lostAt_0 ic_0 ?_
  refine k_istore hC (pc := 1) dX1_lostAt_1 [(4, .int 0), (0, .ref (adr X.G a 0 25)), (1, .ref (adr X.G a 0 1)), (2, .int x2), (3, .int x3)] (by decide) rfl ?_
  refine k_iconst hC (pc := 3) (v := 0) dX1_lostAt_3 ic_0 ?_
  refine k_istore hC (pc := 4) dX1_lostAt_4 [(5, .int 0), (4, .int 0), (0, .ref (adr X.G a 0 25)), (1, .ref (adr X.G a 0 1)), (2, .int x2), (3, .int x3)] (by decide) rfl ?_
  refine k_sub [(0, .ref (adr X.G a 0 25)), (1, .ref (adr X.G a 0 1)), (2, .int x2), (3, .int x3), (4, .int 0), (5, .int 0)] [2, 3, 4, 5, 1, 0] rfl ?_
  exact b_X1_lostAt_6 hC hR hQ hr N _ _ _ _ _ h
theorem ct_X1_lostAt {l : Launch} {G : Gx} {a : Ax} {s : Sx} {N : Nat} {post : Int32 → Sx → Prop} (x2 : Int32) (x3 : Int32) (h : w_X1_lostAt N x2 x3 s post) : Met l yX1_lostAt (Cond.code yX1_lostAt cX1_lostAt 7 (some .int) :: gw) { frames := 1, cells := 0, slots := 0, locals := 21 } (va_Pc [.ref (adr G a 0 25), .ref (adr G a 0 1), .int x2, .int x3] (fun U => FU G a s U)) (Qi G a post) 0 0 (bs_ G) := met_of (plainFor_of_name (by decide)) (Nat.le_of_ble_eq_true rfl) rfl (fun X hC hl hR hQ hr hG hn => by subst hG; exact b_X1_lostAt hC hR hQ hr hn s x2 x3 h)
theorem ca_X1_lostAt : Ca yX1_lostAt cX1_lostAt 7 (some .int) 3 := ⟨cd_X1_lostAt, ii_RX1, by decide, by decide, by decide +kernel⟩
def w_X1_lostByCall_5 (N : Nat) (post : Int32 → Sx → Prop) : Nat → Sx → Int32 → Int32 → Int32 → Prop
  | 0, _, _, _, _ => False
  | n + 1, s, x2, x3, x4 => ((s.1 0 25 4) ≤ x4 → post x3 s) ∧ (¬ ((s.1 0 25 4) ≤ x4) → w_X1_lineUp N x4 s (fun s_2 => w_X1_goersTo N x4 x2 s_2 (fun r_4 s_3 => w_X1_lostAt N x4 r_4 s_3 (fun r_6 s_5 => ∀ x_7 : Int32, x_7 = x3 + r_6 → ∀ x_8 : Int32, x_8 = x4 + 1 → w_X1_lostByCall_5 N post n s_5 x2 x_7 x_8))))
def w_X1_lostByCall (N : Nat) (x2 : Int32) (s : Sx) (post : Int32 → Sx → Prop) : Prop := w_X1_lostByCall_5 N post N s x2 0 0
set_option maxHeartbeats 4000000 in
theorem b_X1_lostByCall_5 {X : Kx} {a : Ax} {N : Nat} {post : Int32 → Sx → Prop}  (hC : Cx X cX1_lostByCall 5 RX1) (hR : X.R = { frames := 3, cells := 0, slots := 0, locals := 69 }) (hQ : X.Q = MQ X.below (Qi X.G a post) X.av X.s 0 0 (bs_ X.G)) (hr : X.meth.sig.returnType = (some .int))   : ∀ (n : Nat) (s : Sx) (x2 : Int32) (x3 : Int32) (x4 : Int32), w_X1_lostByCall_5 N post  n s x2 x3 x4 → wk X a s 5 5 [(0, .ref (adr X.G a 0 25)), (1, .ref (adr X.G a 0 1)), (2, .int x2), (3, .int x3), (4, .int x4)] [] 0 0 := by
  intro n
  induction n with
  | zero => intro s x2 x3 x4 h; exact h.elim
  | succ n ih =>
    intro s x2 x3 x4 h
    unfold w_X1_lostByCall_5 at h
    refine k_iload hC (pc := 5) dX1_lostByCall_5 4 rfl ?_
    refine k_aload_n hC (pc := 7) dX1_lostByCall_7 0 rfl ?_
    refine gf_X1_4 hC (pc := 8)  fl_RX1_37 dX1_lostByCall_8 ?_
    refine k_icmp_ge hC (pc := 11) 45 dX1_lostByCall_11 (by decide) (fun c_1 => ?_) (fun c_1 => ?_)
    · have h := h.1 c_1
      refine k_iload_n hC (pc := 45) dX1_lostByCall_45 3 rfl ?_
      exact k_iret hC (pc := 46) hQ hr dX1_lostByCall_46 h
    · have h := h.2 c_1
      refine k_aload_n hC (pc := 14) dX1_lostByCall_14 0 rfl ?_
      refine k_aload_n hC (pc := 15) dX1_lostByCall_15 1 rfl ?_
      refine k_iload hC (pc := 16) dX1_lostByCall_16 4 rfl ?_
      refine k_cv (rn_V hC (pc := 18) (As := [.ref (adr X.G a 0 1), .int x4]) (rest := []) ca_X1_lineUp ml_RX1_48 im_X1_lineUp se_X1_lineUp (fx_in f0_25) (ob0_25 _ _ _ _ _) rfl rfl (ct_X1_lineUp x4 h) (by rw [hR]; exact ⟨rfl, rfl, by decide, by decide⟩) rfl (Nat.le_of_ble_eq_true rfl) dX1_lostByCall_18 ⟨by rw [hR]; decide, by rw [hR]; decide⟩) (fun s_2 h => ?_)
      refine k_iload_n hC (pc := 21) dX1_lostByCall_21 3 rfl ?_
      refine k_aload_n hC (pc := 22) dX1_lostByCall_22 0 rfl ?_
      refine k_aload_n hC (pc := 23) dX1_lostByCall_23 1 rfl ?_
      refine k_iload hC (pc := 24) dX1_lostByCall_24 4 rfl ?_
      refine k_aload_n hC (pc := 26) dX1_lostByCall_26 0 rfl ?_
      refine k_aload_n hC (pc := 27) dX1_lostByCall_27 1 rfl ?_
      refine k_iload hC (pc := 28) dX1_lostByCall_28 4 rfl ?_
      refine k_iload_n hC (pc := 30) dX1_lostByCall_30 2 rfl ?_
      refine k_ci (rn_V hC (pc := 31) (As := [.ref (adr X.G a 0 1), .int x4, .int x2]) (rest := [.int x4, .ref (adr X.G a 0 1), .ref (adr X.G a 0 25), .int x3]) ca_X1_goersTo ml_RX1_52 im_X1_goersTo se_X1_goersTo (fx_in f0_25) (ob0_25 _ _ _ _ _) rfl rfl (ct_X1_goersTo x4 x2 h) (by rw [hR]; exact ⟨rfl, rfl, by decide, by decide⟩) rfl (Nat.le_of_ble_eq_true rfl) dX1_lostByCall_31 ⟨by rw [hR]; decide, by rw [hR]; decide⟩) (fun r_4 s_3 h => ?_)
      refine k_ci (rn_V hC (pc := 34) (As := [.ref (adr X.G a 0 1), .int x4, .int r_4]) (rest := [.int x3]) ca_X1_lostAt ml_RX1_56 im_X1_lostAt se_X1_lostAt (fx_in f0_25) (ob0_25 _ _ _ _ _) rfl rfl (ct_X1_lostAt x4 r_4 h) (by rw [hR]; exact ⟨rfl, rfl, by decide, by decide⟩) rfl (Nat.le_of_ble_eq_true rfl) dX1_lostByCall_34 ⟨by rw [hR]; decide, by rw [hR]; decide⟩) (fun r_6 s_5 h => ?_)
      refine k_iadd hC (pc := 37) dX1_lostByCall_37 ?_
      refine k_topi (fun x_7 h_x_7 => ?_)
      have h := h x_7 h_x_7
      refine k_istore_n hC (pc := 38) dX1_lostByCall_38 [(3, .int x_7), (0, .ref (adr X.G a 0 25)), (1, .ref (adr X.G a 0 1)), (2, .int x2), (4, .int x4)] (by decide) rfl ?_
      obtain ⟨x_8, h_x_8⟩ : ∃ z : Int32, z = x4 + 1 := ⟨_, rfl⟩
      have h := h x_8 h_x_8
      refine k_iincw hC (pc := 39) dX1_lostByCall_39 4 rfl ic_1 h_x_8.symm [(4, .int x_8), (3, .int x_7), (0, .ref (adr X.G a 0 25)), (1, .ref (adr X.G a 0 1)), (2, .int x2)] (by decide) rfl ?_
      refine k_goto hC (pc := 42) 5 dX1_lostByCall_42 (by decide) ?_
      refine k_sub [(0, .ref (adr X.G a 0 25)), (1, .ref (adr X.G a 0 1)), (2, .int x2), (3, .int x_7), (4, .int x_8)] [2, 3, 4, 1, 0] rfl ?_
      exact ih _ _ _ _ h
set_option maxHeartbeats 4000000 in
theorem b_X1_lostByCall {X : Kx} {a : Ax} {N : Nat} {post : Int32 → Sx → Prop} (hC : Cx X cX1_lostByCall 5 RX1) (hR : X.R = { frames := 3, cells := 0, slots := 0, locals := 69 }) (hQ : X.Q = MQ X.below (Qi X.G a post) X.av X.s 0 0 (bs_ X.G)) (hr : X.meth.sig.returnType = (some .int)) (hn : X.meth.name = "lostByCall") (s : Sx) (x2 : Int32) (h : w_X1_lostByCall N x2 s post) : wk X a s 5 0 [(0, .ref (adr X.G a 0 25)), (1, .ref (adr X.G a 0 1)), (2, .int x2)] [] 0 0 := by
  unfold w_X1_lostByCall at h
  refine k_iconst hC (pc := 0) (v := 0) dX1_lostByCall_0 ic_0 ?_
  refine k_istore_n hC (pc := 1) dX1_lostByCall_1 [(3, .int 0), (0, .ref (adr X.G a 0 25)), (1, .ref (adr X.G a 0 1)), (2, .int x2)] (by decide) rfl ?_
  refine k_iconst hC (pc := 2) (v := 0) dX1_lostByCall_2 ic_0 ?_
  refine k_istore hC (pc := 3) dX1_lostByCall_3 [(4, .int 0), (3, .int 0), (0, .ref (adr X.G a 0 25)), (1, .ref (adr X.G a 0 1)), (2, .int x2)] (by decide) rfl ?_
  refine k_sub [(0, .ref (adr X.G a 0 25)), (1, .ref (adr X.G a 0 1)), (2, .int x2), (3, .int 0), (4, .int 0)] [2, 3, 4, 1, 0] rfl ?_
  exact b_X1_lostByCall_5 hC hR hQ hr N _ _ _ _ h
theorem ct_X1_lostByCall {l : Launch} {G : Gx} {a : Ax} {s : Sx} {N : Nat} {post : Int32 → Sx → Prop} (x2 : Int32) (h : w_X1_lostByCall N x2 s post) : Met l yX1_lostByCall (Cond.code yX1_lostByCall cX1_lostByCall 5 (some .int) :: gw) { frames := 3, cells := 0, slots := 0, locals := 69 } (va_Pc [.ref (adr G a 0 25), .ref (adr G a 0 1), .int x2] (fun U => FU G a s U)) (Qi G a post) 0 0 (bs_ G) := met_of (plainFor_of_name (by decide)) (Nat.le_of_ble_eq_true rfl) rfl (fun X hC hl hR hQ hr hG hn => by subst hG; exact b_X1_lostByCall hC hR hQ hr hn s x2 h)
theorem ca_X1_lostByCall : Ca yX1_lostByCall cX1_lostByCall 5 (some .int) 2 := ⟨cd_X1_lostByCall, ii_RX1, by decide, by decide, by decide +kernel⟩
def w_X1_rowBit (N : Nat) (x0 : Int32) (s : Sx) (post : Int32 → Sx → Prop) : Prop := post (2 * (6 - x0)) s
set_option maxHeartbeats 4000000 in
theorem b_X1_rowBit {X : Kx} {a : Ax} {N : Nat} {post : Int32 → Sx → Prop} (hC : Cx X cX1_rowBit 1 RX1) (hR : X.R = { frames := 0, cells := 0, slots := 0, locals := 0 }) (hQ : X.Q = MQ X.below (Qi X.G a post) X.av X.s 0 0 (bs_ X.G)) (hr : X.meth.sig.returnType = (some .int)) (hn : X.meth.name = "rowBit") (s : Sx) (x0 : Int32) (h : w_X1_rowBit N x0 s post) : wk X a s 1 0 [(0, .int x0)] [] 0 0 := by
  unfold w_X1_rowBit at h
  refine k_iconst hC (pc := 0) (v := 2) dX1_rowBit_0 ic_2 ?_
  refine k_bipush hC (pc := 1) (v := 6) dX1_rowBit_1 bp_6 ?_
  refine k_iload_n hC (pc := 3) dX1_rowBit_3 0 rfl ?_
  refine k_isub hC (pc := 4) dX1_rowBit_4 ?_
  refine k_imul hC (pc := 5) dX1_rowBit_5 ?_
  exact k_iret hC (pc := 6) hQ hr dX1_rowBit_6 h
theorem ct_X1_rowBit {l : Launch} {G : Gx} {a : Ax} {s : Sx} {N : Nat} {post : Int32 → Sx → Prop} (x0 : Int32) (h : w_X1_rowBit N x0 s post) : Met l yX1_rowBit (Cond.code yX1_rowBit cX1_rowBit 1 (some .int) :: gw) { frames := 0, cells := 0, slots := 0, locals := 0 } (va_Pc [.int x0] (fun U => FU G a s U)) (Qi G a post) 0 0 (bs_ G) := met_of (plainFor_of_name (by decide)) (Nat.le_of_ble_eq_true rfl) rfl (fun X hC hl hR hQ hr hG hn => by subst hG; exact b_X1_rowBit hC hR hQ hr hn s x0 h)
theorem ca_X1_rowBit : Ca yX1_rowBit cX1_rowBit 1 (some .int) 1 := ⟨cd_X1_rowBit, ii_RX1, by decide, by decide, by decide +kernel⟩
def w_X1_worthOf_16 (N : Nat) (post : Int64 → Sx → Prop) : Nat → Sx → Int32 → Int32 → Int64 → Int32 → Prop
  | 0, _, _, _, _, _ => False
  | n + 1, s, x2, x3, y4, x6 => ((s.1 0 1 4) ≤ x6 → post y4 s) ∧ (¬ ((s.1 0 1 4) ≤ x6) → (((x3 >>> (x6 &&& 31)) &&& 1) = 0 → ∀ x_6 : Int32, x_6 = x6 + 1 → w_X1_worthOf_16 N post n s x2 x3 y4 x_6) ∧ (¬ (((x3 >>> (x6 &&& 31)) &&& 1) = 0) → vp_in x6 7 ∧ w_X1_rowBit N x6 s (fun r_9 s_8 => ∀ x_10 : Int64, x_10 = y4 + ((((s.1 0 5 x6.toNatClampNeg) <<< (14 &&& 31)) + ((x2 + 1) <<< (r_9 &&& 31))).toInt64) → ∀ x_11 : Int32, x_11 = x6 + 1 → w_X1_worthOf_16 N post n s_8 x2 x3 x_10 x_11)))
def w_X1_worthOf (N : Nat) (x2 : Int32) (x3 : Int32) (s : Sx) (post : Int64 → Sx → Prop) : Prop := w_X1_lostAt N x2 x3 s (fun r_2 s_1 => ∀ x_3 : Int64, x_3 = r_2.toInt64 <<< ((20 : Int32).toInt64 &&& 63) → w_X1_worthOf_16 N post N s_1 x2 x3 x_3 0)
set_option maxHeartbeats 4000000 in
theorem b_X1_worthOf_16 {X : Kx} {a : Ax} {N : Nat} {post : Int64 → Sx → Prop}  (hC : Cx X cX1_worthOf 7 RX1) (hR : X.R = { frames := 2, cells := 0, slots := 0, locals := 47 }) (hQ : X.Q = MQ X.below (Ql X.G a post) X.av X.s 0 0 (bs_ X.G)) (hr : X.meth.sig.returnType = (some .long))   : ∀ (n : Nat) (s : Sx) (x2 : Int32) (x3 : Int32) (y4 : Int64) (x6 : Int32), w_X1_worthOf_16 N post  n s x2 x3 y4 x6 → wk X a s 7 16 [(1, .ref (adr X.G a 0 1)), (2, .int x2), (3, .int x3), (4, .long y4), (6, .int x6)] [] 0 0 := by
  intro n
  induction n with
  | zero => intro s x2 x3 y4 x6 h; exact h.elim
  | succ n ih =>
    intro s x2 x3 y4 x6 h
    unfold w_X1_worthOf_16 at h
    refine k_iload hC (pc := 16) dX1_worthOf_16 4 rfl ?_
    refine k_aload_n hC (pc := 18) dX1_worthOf_18 0 rfl ?_
    refine gf_X0_4 hC (pc := 19)  fl_RX1_41 dX1_worthOf_19 ?_
    refine k_icmp_ge hC (pc := 22) 66 dX1_worthOf_22 (by decide) (fun c_4 => ?_) (fun c_4 => ?_)
    · have h := h.1 c_4
      refine k_lload hC (pc := 66) dX1_worthOf_66 3 rfl ?_
      exact k_lret hC (pc := 68) hQ hr dX1_worthOf_68 h
    · have h := h.2 c_4
      refine k_iload_n hC (pc := 25) dX1_worthOf_25 2 rfl ?_
      refine k_iload hC (pc := 26) dX1_worthOf_26 4 rfl ?_
      refine k_ishr hC (pc := 28) dX1_worthOf_28 ?_
      refine k_iconst hC (pc := 29) (v := 1) dX1_worthOf_29 ic_1 ?_
      refine k_iand hC (pc := 30) dX1_worthOf_30 ?_
      refine k_if_eq hC (pc := 31) 60 dX1_worthOf_31 (by decide) (fun c_5 => ?_) (fun c_5 => ?_)
      · have h := h.1 c_5
        obtain ⟨x_6, h_x_6⟩ : ∃ z : Int32, z = x6 + 1 := ⟨_, rfl⟩
        have h := h x_6 h_x_6
        refine k_iincw hC (pc := 60) dX1_worthOf_60 4 rfl ic_1 h_x_6.symm [(6, .int x_6), (1, .ref (adr X.G a 0 1)), (2, .int x2), (3, .int x3), (4, .long y4)] (by decide) rfl ?_
        refine k_goto hC (pc := 63) 16 dX1_worthOf_63 (by decide) ?_
        refine k_sub [(1, .ref (adr X.G a 0 1)), (2, .int x2), (3, .int x3), (4, .long y4), (6, .int x_6)] [1, 2, 3, 4, 0] rfl ?_
        exact ih _ _ _ _ _ h
      · have h := h.2 c_5
        refine k_lload hC (pc := 34) dX1_worthOf_34 3 rfl ?_
        refine k_aload_n hC (pc := 36) dX1_worthOf_36 0 rfl ?_
        refine gf_X0_3 hC (pc := 37)  fl_RX1_89 dX1_worthOf_37 ?_
        refine k_iload hC (pc := 40) dX1_worthOf_40 4 rfl ?_
        obtain ⟨c_7, h⟩ := h
        refine r_iald hC (pc := 42) ra0_5 c_7 dX1_worthOf_42 ?_
        refine k_bipush hC (pc := 43) (v := 14) dX1_worthOf_43 bp_14 ?_
        refine k_ishl hC (pc := 45) dX1_worthOf_45 ?_
        refine k_iload_n hC (pc := 46) dX1_worthOf_46 1 rfl ?_
        refine k_iconst hC (pc := 47) (v := 1) dX1_worthOf_47 ic_1 ?_
        refine k_iadd hC (pc := 48) dX1_worthOf_48 ?_
        refine k_iload hC (pc := 49) dX1_worthOf_49 4 rfl ?_
        refine k_ci (rn_S hC (pc := 51) (As := [.int x6]) (rest := [.int (x2 + 1), .int ((s.1 0 5 x6.toNatClampNeg) <<< (14 &&& 31)), .long y4]) ca_X1_rowBit ml_RX1_81 sm_X1_rowBit (ct_X1_rowBit x6 h) (by rw [hR]; exact ⟨rfl, rfl, by decide, by decide⟩) rfl (Nat.le_of_ble_eq_true rfl) dX1_worthOf_51 ⟨by rw [hR]; decide, by rw [hR]; decide⟩) (fun r_9 s_8 h => ?_)
        refine k_ishl hC (pc := 54) dX1_worthOf_54 ?_
        refine k_iadd hC (pc := 55) dX1_worthOf_55 ?_
        refine k_i2l hC (pc := 56) dX1_worthOf_56 ?_
        refine k_ladd hC (pc := 57) dX1_worthOf_57 ?_
        refine k_topl (fun x_10 h_x_10 => ?_)
        have h := h x_10 h_x_10
        refine k_lstore hC (pc := 58) dX1_worthOf_58 [(4, .long x_10), (1, .ref (adr X.G a 0 1)), (2, .int x2), (3, .int x3), (6, .int x6)] (by decide) rfl ?_
        obtain ⟨x_11, h_x_11⟩ : ∃ z : Int32, z = x6 + 1 := ⟨_, rfl⟩
        have h := h x_11 h_x_11
        refine k_iincw hC (pc := 60) dX1_worthOf_60 4 rfl ic_1 h_x_11.symm [(6, .int x_11), (4, .long x_10), (1, .ref (adr X.G a 0 1)), (2, .int x2), (3, .int x3)] (by decide) rfl ?_
        refine k_goto hC (pc := 63) 16 dX1_worthOf_63 (by decide) ?_
        refine k_sub [(1, .ref (adr X.G a 0 1)), (2, .int x2), (3, .int x3), (4, .long x_10), (6, .int x_11)] [2, 3, 4, 1, 0] rfl ?_
        exact ih _ _ _ _ _ h
set_option maxHeartbeats 4000000 in
theorem b_X1_worthOf {X : Kx} {a : Ax} {N : Nat} {post : Int64 → Sx → Prop} (hC : Cx X cX1_worthOf 7 RX1) (hR : X.R = { frames := 2, cells := 0, slots := 0, locals := 47 }) (hQ : X.Q = MQ X.below (Ql X.G a post) X.av X.s 0 0 (bs_ X.G)) (hr : X.meth.sig.returnType = (some .long)) (hn : X.meth.name = "worthOf") (s : Sx) (x2 : Int32) (x3 : Int32) (h : w_X1_worthOf N x2 x3 s post) : wk X a s 7 0 [(0, .ref (adr X.G a 0 25)), (1, .ref (adr X.G a 0 1)), (2, .int x2), (3, .int x3)] [] 0 0 := by
  unfold w_X1_worthOf at h
  refine k_aload_n hC (pc := 0) dX1_worthOf_0 0 rfl ?_
  refine k_aload_n hC (pc := 1) dX1_worthOf_1 1 rfl ?_
  refine k_iload_n hC (pc := 2) dX1_worthOf_2 2 rfl ?_
  refine k_iload_n hC (pc := 3) dX1_worthOf_3 3 rfl ?_
  refine k_ci (rn_V hC (pc := 4) (As := [.ref (adr X.G a 0 1), .int x2, .int x3]) (rest := []) ca_X1_lostAt ml_RX1_56 im_X1_lostAt se_X1_lostAt (fx_in f0_25) (ob0_25 _ _ _ _ _) rfl rfl (ct_X1_lostAt x2 x3 h) (by rw [hR]; exact ⟨rfl, rfl, by decide, by decide⟩) rfl (Nat.le_of_ble_eq_true rfl) dX1_worthOf_4 ⟨by rw [hR]; decide, by rw [hR]; decide⟩) (fun r_2 s_1 h => ?_)
  refine k_i2l hC (pc := 7) dX1_worthOf_7 ?_
  refine k_bipush hC (pc := 8) (v := 20) dX1_worthOf_8 bp_20 ?_
  refine k_lshl hC (pc := 10) dX1_worthOf_10 ?_
  refine k_topl (fun x_3 h_x_3 => ?_)
  have h := h x_3 h_x_3
  refine k_lstore hC (pc := 11) dX1_worthOf_11 [(4, .long x_3), (0, .ref (adr X.G a 0 25)), (1, .ref (adr X.G a 0 1)), (2, .int x2), (3, .int x3)] (by decide) rfl ?_
  refine k_iconst hC (pc := 13) (v := 0) dX1_worthOf_13 ic_0 ?_
  refine k_istore hC (pc := 14) dX1_worthOf_14 [(6, .int 0), (4, .long x_3), (0, .ref (adr X.G a 0 25)), (1, .ref (adr X.G a 0 1)), (2, .int x2), (3, .int x3)] (by decide) rfl ?_
  refine k_sub [(1, .ref (adr X.G a 0 1)), (2, .int x2), (3, .int x3), (4, .long x_3), (6, .int 0)] [3, 4, 5, 1, 0] rfl ?_
  exact b_X1_worthOf_16 hC hR hQ hr N _ _ _ _ _ h
theorem ct_X1_worthOf {l : Launch} {G : Gx} {a : Ax} {s : Sx} {N : Nat} {post : Int64 → Sx → Prop} (x2 : Int32) (x3 : Int32) (h : w_X1_worthOf N x2 x3 s post) : Met l yX1_worthOf (Cond.code yX1_worthOf cX1_worthOf 7 (some .long) :: gw) { frames := 2, cells := 0, slots := 0, locals := 47 } (va_Pc [.ref (adr G a 0 25), .ref (adr G a 0 1), .int x2, .int x3] (fun U => FU G a s U)) (Ql G a post) 0 0 (bs_ G) := met_of (plainFor_of_name (by decide)) (Nat.le_of_ble_eq_true rfl) rfl (fun X hC hl hR hQ hr hG hn => by subst hG; exact b_X1_worthOf hC hR hQ hr hn s x2 x3 h)
theorem ca_X1_worthOf : Ca yX1_worthOf cX1_worthOf 7 (some .long) 3 := ⟨cd_X1_worthOf, ii_RX1, by decide, by decide, by decide +kernel⟩
def w_X1_bestSplit_17 (N : Nat) (post : Int64 → Sx → Prop) : Nat → Sx → Int32 → Int64 → Int32 → Prop
  | 0, _, _, _, _ => False
  | n + 1, s, x1, y2, x4 => (x4 ≤ 0 → post y2 s) ∧ (¬ (x4 ≤ 0) → vp_in (x1 - x4) 128 ∧ vp_in x4 128 ∧ w_J9_min_f86c9 N y2 ((s.2.1 0 33 (x1 - x4).toNatClampNeg) + (s.2.1 0 32 x4.toNatClampNeg)) s (fun r_8 s_7 => ∀ x_9 : Int32, x_9 = (x4 - 1) &&& x1 → w_X1_bestSplit_17 N post n s_7 x1 r_8 x_9))
def w_X1_bestSplit (N : Nat) (x1 : Int32) (s : Sx) (post : Int64 → Sx → Prop) : Prop := vp_in x1 128 ∧ vp_in 0 128 ∧ ∀ x_3 : Int64, x_3 = (s.2.1 0 33 x1.toNatClampNeg) + (s.2.1 0 32 (0 : Int32).toNatClampNeg) → w_X1_bestSplit_17 N post N s x1 x_3 x1
set_option maxHeartbeats 4000000 in
theorem b_X1_bestSplit_17 {X : Kx} {a : Ax} {N : Nat} {post : Int64 → Sx → Prop}  (hC : Cx X cX1_bestSplit 5 RX1) (hR : X.R = { frames := 1, cells := 0, slots := 0, locals := 23 }) (hQ : X.Q = MQ X.below (Ql X.G a post) X.av X.s 0 0 (bs_ X.G)) (hr : X.meth.sig.returnType = (some .long))   : ∀ (n : Nat) (s : Sx) (x1 : Int32) (y2 : Int64) (x4 : Int32), w_X1_bestSplit_17 N post  n s x1 y2 x4 → wk X a s 5 17 [(0, .ref (adr X.G a 0 25)), (1, .int x1), (2, .long y2), (4, .int x4)] [] 0 0 := by
  intro n
  induction n with
  | zero => intro s x1 y2 x4 h; exact h.elim
  | succ n ih =>
    intro s x1 y2 x4 h
    unfold w_X1_bestSplit_17 at h
    refine k_iload hC (pc := 17) dX1_bestSplit_17 3 rfl ?_
    refine k_if_le hC (pc := 19) 55 dX1_bestSplit_19 (by decide) (fun c_4 => ?_) (fun c_4 => ?_)
    · have h := h.1 c_4
      refine k_lload_n hC (pc := 55) dX1_bestSplit_55 2 rfl ?_
      exact k_lret hC (pc := 56) hQ hr dX1_bestSplit_56 h
    · have h := h.2 c_4
      refine k_lload_n hC (pc := 22) dX1_bestSplit_22 2 rfl ?_
      refine k_aload_n hC (pc := 23) dX1_bestSplit_23 0 rfl ?_
      refine gf_X1_8 hC (pc := 24)  fl_RX1_34 dX1_bestSplit_24 ?_
      refine k_iload_n hC (pc := 27) dX1_bestSplit_27 1 rfl ?_
      refine k_iload hC (pc := 28) dX1_bestSplit_28 3 rfl ?_
      refine k_isub hC (pc := 30) dX1_bestSplit_30 ?_
      obtain ⟨c_5, h⟩ := h
      refine r_lald hC (pc := 31) ra0_33 c_5 dX1_bestSplit_31 ?_
      refine k_aload_n hC (pc := 32) dX1_bestSplit_32 0 rfl ?_
      refine gf_X1_7 hC (pc := 33)  fl_RX1_30 dX1_bestSplit_33 ?_
      refine k_iload hC (pc := 36) dX1_bestSplit_36 3 rfl ?_
      obtain ⟨c_6, h⟩ := h
      refine r_lald hC (pc := 38) ra0_32 c_6 dX1_bestSplit_38 ?_
      refine k_ladd hC (pc := 39) dX1_bestSplit_39 ?_
      refine k_cl (rn_S hC (pc := 40) (As := [.long y2, .long ((s.2.1 0 33 (x1 - x4).toNatClampNeg) + (s.2.1 0 32 x4.toNatClampNeg))]) (rest := []) ca_J9_min_f86c9 ml_RX1_75 sm_J9_min_f86c9 (ct_J9_min_f86c9 y2 ((s.2.1 0 33 (x1 - x4).toNatClampNeg) + (s.2.1 0 32 x4.toNatClampNeg)) h) (by rw [hR]; exact ⟨rfl, rfl, by decide, by decide⟩) rfl (Nat.le_of_ble_eq_true rfl) dX1_bestSplit_40 ⟨by rw [hR]; decide, by rw [hR]; decide⟩) (fun r_8 s_7 h => ?_)
      refine k_lstore_n hC (pc := 43) dX1_bestSplit_43 [(2, .long r_8), (0, .ref (adr X.G a 0 25)), (1, .int x1), (4, .int x4)] (by decide) rfl ?_
      refine k_iload hC (pc := 44) dX1_bestSplit_44 3 rfl ?_
      refine k_iconst hC (pc := 46) (v := 1) dX1_bestSplit_46 ic_1 ?_
      refine k_isub hC (pc := 47) dX1_bestSplit_47 ?_
      refine k_iload_n hC (pc := 48) dX1_bestSplit_48 2 rfl ?_
      refine k_iand hC (pc := 49) dX1_bestSplit_49 ?_
      refine k_topi (fun x_9 h_x_9 => ?_)
      have h := h x_9 h_x_9
      refine k_istore hC (pc := 50) dX1_bestSplit_50 [(4, .int x_9), (2, .long r_8), (0, .ref (adr X.G a 0 25)), (1, .int x1)] (by decide) rfl ?_
      refine k_goto hC (pc := 52) 17 dX1_bestSplit_52 (by decide) ?_
      refine k_sub [(0, .ref (adr X.G a 0 25)), (1, .int x1), (2, .long r_8), (4, .int x_9)] [2, 3, 1, 0] rfl ?_
      exact ih _ _ _ _ h
set_option maxHeartbeats 4000000 in
theorem b_X1_bestSplit {X : Kx} {a : Ax} {N : Nat} {post : Int64 → Sx → Prop} (hC : Cx X cX1_bestSplit 5 RX1) (hR : X.R = { frames := 1, cells := 0, slots := 0, locals := 23 }) (hQ : X.Q = MQ X.below (Ql X.G a post) X.av X.s 0 0 (bs_ X.G)) (hr : X.meth.sig.returnType = (some .long)) (hn : X.meth.name = "bestSplit") (s : Sx) (x1 : Int32) (h : w_X1_bestSplit N x1 s post) : wk X a s 5 0 [(0, .ref (adr X.G a 0 25)), (1, .int x1)] [] 0 0 := by
  unfold w_X1_bestSplit at h
  refine k_aload_n hC (pc := 0) dX1_bestSplit_0 0 rfl ?_
  refine gf_X1_8 hC (pc := 1)  fl_RX1_34 dX1_bestSplit_1 ?_
  refine k_iload_n hC (pc := 4) dX1_bestSplit_4 1 rfl ?_
  obtain ⟨c_1, h⟩ := h
  refine r_lald hC (pc := 5) ra0_33 c_1 dX1_bestSplit_5 ?_
  refine k_aload_n hC (pc := 6) dX1_bestSplit_6 0 rfl ?_
  refine gf_X1_7 hC (pc := 7)  fl_RX1_30 dX1_bestSplit_7 ?_
  refine k_iconst hC (pc := 10) (v := 0) dX1_bestSplit_10 ic_0 ?_
  obtain ⟨c_2, h⟩ := h
  refine r_lald hC (pc := 11) ra0_32 c_2 dX1_bestSplit_11 ?_
  refine k_ladd hC (pc := 12) dX1_bestSplit_12 ?_
  refine k_topl (fun x_3 h_x_3 => ?_)
  have h := h x_3 h_x_3
  refine k_lstore_n hC (pc := 13) dX1_bestSplit_13 [(2, .long x_3), (0, .ref (adr X.G a 0 25)), (1, .int x1)] (by decide) rfl ?_
  refine k_iload_n hC (pc := 14) dX1_bestSplit_14 2 rfl ?_
  refine k_istore hC (pc := 15) dX1_bestSplit_15 [(4, .int x1), (2, .long x_3), (0, .ref (adr X.G a 0 25)), (1, .int x1)] (by decide) rfl ?_
  refine k_sub [(0, .ref (adr X.G a 0 25)), (1, .int x1), (2, .long x_3), (4, .int x1)] [2, 3, 1, 0] rfl ?_
  exact b_X1_bestSplit_17 hC hR hQ hr N _ _ _ _ h
theorem ct_X1_bestSplit {l : Launch} {G : Gx} {a : Ax} {s : Sx} {N : Nat} {post : Int64 → Sx → Prop} (x1 : Int32) (h : w_X1_bestSplit N x1 s post) : Met l yX1_bestSplit (Cond.code yX1_bestSplit cX1_bestSplit 5 (some .long) :: gw) { frames := 1, cells := 0, slots := 0, locals := 23 } (va_Pc [.ref (adr G a 0 25), .int x1] (fun U => FU G a s U)) (Ql G a post) 0 0 (bs_ G) := met_of (plainFor_of_name (by decide)) (Nat.le_of_ble_eq_true rfl) rfl (fun X hC hl hR hQ hr hG hn => by subst hG; exact b_X1_bestSplit hC hR hQ hr hn s x1 h)
theorem ca_X1_bestSplit : Ca yX1_bestSplit cX1_bestSplit 5 (some .long) 1 := ⟨cd_X1_bestSplit, ii_RX1, by decide, by decide, by decide +kernel⟩
def w_X1_bestCall_112 (N : Nat) (post : Int64 → Sx → Prop) : Nat → Sx → Int32 → Int64 → Int32 → Prop
  | 0, _, _, _, _ => False
  | n + 1, s, x2, y3, x5 => (x2 ≤ x5 → post y3 s) ∧ (¬ (x2 ≤ x5) → vp_in x5 128 ∧ w_J9_min_f86c9 N y3 (s.2.1 0 33 x5.toNatClampNeg) s (fun r_9 s_8 => ∀ x_10 : Int32, x_10 = x5 + 1 → w_X1_bestCall_112 N post n s_8 x2 r_9 x_10))
def w_X1_bestCall_75 (N : Nat) (post : Int64 → Sx → Prop) (K26 : Sx → Int32 → Int32 → Prop) : Nat → Sx → Int32 → Int32 → Int32 → Prop
  | 0, _, _, _, _ => False
  | n + 1, s, x2, x3, x4 => (x4 < 0 → ∀ x_15 : Int32, x_15 = x3 + 1 → K26 s x2 x_15) ∧ (¬ (x4 < 0) → w_X1_bestSplit N x4 s (fun r_17 s_16 => vp_in x4 128 ∧ ∀ s_19, s_19 = setJ s_16 0 33 x4.toNatClampNeg r_17 → ∀ x_20 : Int32, x_20 = x4 + (-1) → w_X1_bestCall_75 N post K26 n s_19 x2 x3 x_20))
def w_X1_bestCall_43 (N : Nat) (post : Int64 → Sx → Prop) (K26 : Sx → Int32 → Int32 → Prop) : Nat → Sx → Int32 → Int32 → Int32 → Prop
  | 0, _, _, _, _ => False
  | n + 1, s, x2, x3, x4 => (x2 ≤ x4 → ∀ x_13 : Int32, x_13 = x2 - 1 → w_X1_bestCall_75 N post K26 N s x2 x3 x_13) ∧ (¬ (x2 ≤ x4) → w_X1_worthOf N x3 x4 s (fun r_22 s_21 => vp_in x4 128 ∧ ∀ s_24, s_24 = setJ s_21 0 32 x4.toNatClampNeg r_22 → ∀ x_25 : Int32, x_25 = x4 + 1 → w_X1_bestCall_43 N post K26 n s_24 x2 x3 x_25))
def w_X1_bestCall_26 (N : Nat) (post : Int64 → Sx → Prop) : Nat → Sx → Int32 → Int32 → Prop
  | 0, _, _, _ => False
  | n + 1, s, x2, x3 => ((s.1 0 25 4) ≤ x3 → w_X1_bestCall_112 N post N s x2 1152921504606846976 0) ∧ (¬ ((s.1 0 25 4) ≤ x3) → w_X1_lineUp N x3 s (fun s_11 => w_X1_bestCall_43 N post (w_X1_bestCall_26 N post n) N s_11 x2 x3 0))
def w_X1_bestCall (N : Nat) (s : Sx) (post : Int64 → Sx → Prop) : Prop := ∀ x_1 : Int32, x_1 = 1 <<< ((s.1 0 1 4) &&& 31) → w_J7_fill_d0a16 N 33 128 1152921504606846976 s (fun s_2 => vp_in 0 128 ∧ ∀ s_4, s_4 = setJ s_2 0 33 (0 : Int32).toNatClampNeg 0 → w_X1_bestCall_26 N post N s_4 x_1 0)
set_option maxHeartbeats 4000000 in
theorem b_X1_bestCall_112 {X : Kx} {a : Ax} {N : Nat} {post : Int64 → Sx → Prop}  (hC : Cx X cX1_bestCall 6 RX1) (hR : X.R = { frames := 3, cells := 0, slots := 0, locals := 73 }) (hQ : X.Q = MQ X.below (Ql X.G a post) X.av X.s 0 0 (bs_ X.G)) (hr : X.meth.sig.returnType = (some .long))   : ∀ (n : Nat) (s : Sx) (x2 : Int32) (y3 : Int64) (x5 : Int32), w_X1_bestCall_112 N post  n s x2 y3 x5 → wk X a s 6 112 [(0, .ref (adr X.G a 0 25)), (2, .int x2), (3, .long y3), (5, .int x5)] [] 0 0 := by
  intro n
  induction n with
  | zero => intro s x2 y3 x5 h; exact h.elim
  | succ n ih =>
    intro s x2 y3 x5 h
    unfold w_X1_bestCall_112 at h
    refine k_iload hC (pc := 112) dX1_bestCall_112 3 rfl ?_
    refine k_iload_n hC (pc := 114) dX1_bestCall_114 1 rfl ?_
    refine k_icmp_ge hC (pc := 115) 136 dX1_bestCall_115 (by decide) (fun c_6 => ?_) (fun c_6 => ?_)
    · have h := h.1 c_6
      refine k_lload_n hC (pc := 136) dX1_bestCall_136 2 rfl ?_
      exact k_lret hC (pc := 137) hQ hr dX1_bestCall_137 h
    · have h := h.2 c_6
      refine k_lload_n hC (pc := 118) dX1_bestCall_118 2 rfl ?_
      refine k_aload_n hC (pc := 119) dX1_bestCall_119 0 rfl ?_
      refine gf_X1_8 hC (pc := 120)  fl_RX1_34 dX1_bestCall_120 ?_
      refine k_iload hC (pc := 123) dX1_bestCall_123 3 rfl ?_
      obtain ⟨c_7, h⟩ := h
      refine r_lald hC (pc := 125) ra0_33 c_7 dX1_bestCall_125 ?_
      refine k_cl (rn_S hC (pc := 126) (As := [.long y3, .long (s.2.1 0 33 x5.toNatClampNeg)]) (rest := []) ca_J9_min_f86c9 ml_RX1_75 sm_J9_min_f86c9 (ct_J9_min_f86c9 y3 (s.2.1 0 33 x5.toNatClampNeg) h) (by rw [hR]; exact ⟨rfl, rfl, by decide, by decide⟩) rfl (Nat.le_of_ble_eq_true rfl) dX1_bestCall_126 ⟨by rw [hR]; decide, by rw [hR]; decide⟩) (fun r_9 s_8 h => ?_)
      refine k_lstore_n hC (pc := 129) dX1_bestCall_129 [(3, .long r_9), (0, .ref (adr X.G a 0 25)), (2, .int x2), (5, .int x5)] (by decide) rfl ?_
      obtain ⟨x_10, h_x_10⟩ : ∃ z : Int32, z = x5 + 1 := ⟨_, rfl⟩
      have h := h x_10 h_x_10
      refine k_iincw hC (pc := 130) dX1_bestCall_130 3 rfl ic_1 h_x_10.symm [(5, .int x_10), (3, .long r_9), (0, .ref (adr X.G a 0 25)), (2, .int x2)] (by decide) rfl ?_
      refine k_goto hC (pc := 133) 112 dX1_bestCall_133 (by decide) ?_
      refine k_sub [(0, .ref (adr X.G a 0 25)), (2, .int x2), (3, .long r_9), (5, .int x_10)] [2, 3, 1, 0] rfl ?_
      exact ih _ _ _ _ h
set_option maxHeartbeats 4000000 in
theorem b_X1_bestCall_75 {X : Kx} {a : Ax} {N : Nat} {post : Int64 → Sx → Prop} {K26 : Sx → Int32 → Int32 → Prop}  (hC : Cx X cX1_bestCall 6 RX1) (hR : X.R = { frames := 3, cells := 0, slots := 0, locals := 73 }) (hQ : X.Q = MQ X.below (Ql X.G a post) X.av X.s 0 0 (bs_ X.G)) (hr : X.meth.sig.returnType = (some .long))  (hK26 : ∀ (s : Sx) (x2 : Int32) (x3 : Int32), K26 s x2 x3 → wk X a s 6 26 [(0, .ref (adr X.G a 0 25)), (1, .ref (adr X.G a 0 1)), (2, .int x2), (3, .int x3)] [] 0 0) : ∀ (n : Nat) (s : Sx) (x2 : Int32) (x3 : Int32) (x4 : Int32), w_X1_bestCall_75 N post K26 n s x2 x3 x4 → wk X a s 6 75 [(0, .ref (adr X.G a 0 25)), (1, .ref (adr X.G a 0 1)), (2, .int x2), (3, .int x3), (4, .int x4)] [] 0 0 := by
  intro n
  induction n with
  | zero => intro s x2 x3 x4 h; exact h.elim
  | succ n ih =>
    intro s x2 x3 x4 h
    unfold w_X1_bestCall_75 at h
    refine k_iload hC (pc := 75) dX1_bestCall_75 4 rfl ?_
    refine k_if_lt hC (pc := 77) 99 dX1_bestCall_77 (by decide) (fun c_14 => ?_) (fun c_14 => ?_)
    · have h := h.1 c_14
      obtain ⟨x_15, h_x_15⟩ : ∃ z : Int32, z = x3 + 1 := ⟨_, rfl⟩
      have h := h x_15 h_x_15
      refine k_iincw hC (pc := 99) dX1_bestCall_99 3 rfl ic_1 h_x_15.symm [(3, .int x_15), (0, .ref (adr X.G a 0 25)), (1, .ref (adr X.G a 0 1)), (2, .int x2), (4, .int x4)] (by decide) rfl ?_
      refine k_goto hC (pc := 102) 26 dX1_bestCall_102 (by decide) ?_
      refine k_sub [(0, .ref (adr X.G a 0 25)), (1, .ref (adr X.G a 0 1)), (2, .int x2), (3, .int x_15)] [1, 2, 3, 0] rfl ?_
      exact hK26 _ _ _ h
    · have h := h.2 c_14
      refine k_aload_n hC (pc := 80) dX1_bestCall_80 0 rfl ?_
      refine gf_X1_8 hC (pc := 81)  fl_RX1_34 dX1_bestCall_81 ?_
      refine k_iload hC (pc := 84) dX1_bestCall_84 4 rfl ?_
      refine k_aload_n hC (pc := 86) dX1_bestCall_86 0 rfl ?_
      refine k_iload hC (pc := 87) dX1_bestCall_87 4 rfl ?_
      refine k_cl (rn_V hC (pc := 89) (As := [.int x4]) (rest := [.int x4, .ref (adr X.G a 0 33)]) ca_X1_bestSplit ml_RX1_71 im_X1_bestSplit se_X1_bestSplit (fx_in f0_25) (ob0_25 _ _ _ _ _) rfl rfl (ct_X1_bestSplit x4 h) (by rw [hR]; exact ⟨rfl, rfl, by decide, by decide⟩) rfl (Nat.le_of_ble_eq_true rfl) dX1_bestCall_89 ⟨by rw [hR]; decide, by rw [hR]; decide⟩) (fun r_17 s_16 h => ?_)
      obtain ⟨c_18, h⟩ := h
      refine r_last hC (pc := 92) ra0_33 c_18 dX1_bestCall_92 (fun s_19 h_s_19 => ?_)
      have h := h s_19 h_s_19
      obtain ⟨x_20, h_x_20⟩ : ∃ z : Int32, z = x4 + (-1) := ⟨_, rfl⟩
      have h := h x_20 h_x_20
      refine k_iincw hC (pc := 93) dX1_bestCall_93 4 rfl ic_m1 h_x_20.symm [(4, .int x_20), (0, .ref (adr X.G a 0 25)), (1, .ref (adr X.G a 0 1)), (2, .int x2), (3, .int x3)] (by decide) rfl ?_
      refine k_goto hC (pc := 96) 75 dX1_bestCall_96 (by decide) ?_
      refine k_sub [(0, .ref (adr X.G a 0 25)), (1, .ref (adr X.G a 0 1)), (2, .int x2), (3, .int x3), (4, .int x_20)] [1, 2, 3, 4, 0] rfl ?_
      exact ih _ _ _ _ h
set_option maxHeartbeats 4000000 in
theorem b_X1_bestCall_43 {X : Kx} {a : Ax} {N : Nat} {post : Int64 → Sx → Prop} {K26 : Sx → Int32 → Int32 → Prop}  (hC : Cx X cX1_bestCall 6 RX1) (hR : X.R = { frames := 3, cells := 0, slots := 0, locals := 73 }) (hQ : X.Q = MQ X.below (Ql X.G a post) X.av X.s 0 0 (bs_ X.G)) (hr : X.meth.sig.returnType = (some .long))  (hK26 : ∀ (s : Sx) (x2 : Int32) (x3 : Int32), K26 s x2 x3 → wk X a s 6 26 [(0, .ref (adr X.G a 0 25)), (1, .ref (adr X.G a 0 1)), (2, .int x2), (3, .int x3)] [] 0 0) : ∀ (n : Nat) (s : Sx) (x2 : Int32) (x3 : Int32) (x4 : Int32), w_X1_bestCall_43 N post K26 n s x2 x3 x4 → wk X a s 6 43 [(0, .ref (adr X.G a 0 25)), (1, .ref (adr X.G a 0 1)), (2, .int x2), (3, .int x3), (4, .int x4)] [] 0 0 := by
  intro n
  induction n with
  | zero => intro s x2 x3 x4 h; exact h.elim
  | succ n ih =>
    intro s x2 x3 x4 h
    unfold w_X1_bestCall_43 at h
    refine k_iload hC (pc := 43) dX1_bestCall_43 4 rfl ?_
    refine k_iload_n hC (pc := 45) dX1_bestCall_45 2 rfl ?_
    refine k_icmp_ge hC (pc := 46) 70 dX1_bestCall_46 (by decide) (fun c_12 => ?_) (fun c_12 => ?_)
    · have h := h.1 c_12
      refine k_iload_n hC (pc := 70) dX1_bestCall_70 2 rfl ?_
      refine k_iconst hC (pc := 71) (v := 1) dX1_bestCall_71 ic_1 ?_
      refine k_isub hC (pc := 72) dX1_bestCall_72 ?_
      refine k_topi (fun x_13 h_x_13 => ?_)
      have h := h x_13 h_x_13
      refine k_istore hC (pc := 73) dX1_bestCall_73 [(4, .int x_13), (0, .ref (adr X.G a 0 25)), (1, .ref (adr X.G a 0 1)), (2, .int x2), (3, .int x3)] (by decide) rfl ?_
      refine k_sub [(0, .ref (adr X.G a 0 25)), (1, .ref (adr X.G a 0 1)), (2, .int x2), (3, .int x3), (4, .int x_13)] [1, 2, 3, 4, 0] rfl ?_
      exact b_X1_bestCall_75 hC hR hQ hr hK26 N _ _ _ _ h
    · have h := h.2 c_12
      refine k_aload_n hC (pc := 49) dX1_bestCall_49 0 rfl ?_
      refine gf_X1_7 hC (pc := 50)  fl_RX1_30 dX1_bestCall_50 ?_
      refine k_iload hC (pc := 53) dX1_bestCall_53 4 rfl ?_
      refine k_aload_n hC (pc := 55) dX1_bestCall_55 0 rfl ?_
      refine k_aload_n hC (pc := 56) dX1_bestCall_56 1 rfl ?_
      refine k_iload_n hC (pc := 57) dX1_bestCall_57 3 rfl ?_
      refine k_iload hC (pc := 58) dX1_bestCall_58 4 rfl ?_
      refine k_cl (rn_V hC (pc := 60) (As := [.ref (adr X.G a 0 1), .int x3, .int x4]) (rest := [.int x4, .ref (adr X.G a 0 32)]) ca_X1_worthOf ml_RX1_67 im_X1_worthOf se_X1_worthOf (fx_in f0_25) (ob0_25 _ _ _ _ _) rfl rfl (ct_X1_worthOf x3 x4 h) (by rw [hR]; exact ⟨rfl, rfl, by decide, by decide⟩) rfl (Nat.le_of_ble_eq_true rfl) dX1_bestCall_60 ⟨by rw [hR]; decide, by rw [hR]; decide⟩) (fun r_22 s_21 h => ?_)
      obtain ⟨c_23, h⟩ := h
      refine r_last hC (pc := 63) ra0_32 c_23 dX1_bestCall_63 (fun s_24 h_s_24 => ?_)
      have h := h s_24 h_s_24
      obtain ⟨x_25, h_x_25⟩ : ∃ z : Int32, z = x4 + 1 := ⟨_, rfl⟩
      have h := h x_25 h_x_25
      refine k_iincw hC (pc := 64) dX1_bestCall_64 4 rfl ic_1 h_x_25.symm [(4, .int x_25), (0, .ref (adr X.G a 0 25)), (1, .ref (adr X.G a 0 1)), (2, .int x2), (3, .int x3)] (by decide) rfl ?_
      refine k_goto hC (pc := 67) 43 dX1_bestCall_67 (by decide) ?_
      refine k_sub [(0, .ref (adr X.G a 0 25)), (1, .ref (adr X.G a 0 1)), (2, .int x2), (3, .int x3), (4, .int x_25)] [1, 2, 3, 4, 0] rfl ?_
      exact ih _ _ _ _ h
set_option maxHeartbeats 4000000 in
theorem b_X1_bestCall_26 {X : Kx} {a : Ax} {N : Nat} {post : Int64 → Sx → Prop}  (hC : Cx X cX1_bestCall 6 RX1) (hR : X.R = { frames := 3, cells := 0, slots := 0, locals := 73 }) (hQ : X.Q = MQ X.below (Ql X.G a post) X.av X.s 0 0 (bs_ X.G)) (hr : X.meth.sig.returnType = (some .long))   : ∀ (n : Nat) (s : Sx) (x2 : Int32) (x3 : Int32), w_X1_bestCall_26 N post  n s x2 x3 → wk X a s 6 26 [(0, .ref (adr X.G a 0 25)), (1, .ref (adr X.G a 0 1)), (2, .int x2), (3, .int x3)] [] 0 0 := by
  intro n
  induction n with
  | zero => intro s x2 x3 h; exact h.elim
  | succ n ih =>
    intro s x2 x3 h
    unfold w_X1_bestCall_26 at h
    refine k_iload_n hC (pc := 26) dX1_bestCall_26 3 rfl ?_
    refine k_aload_n hC (pc := 27) dX1_bestCall_27 0 rfl ?_
    refine gf_X1_4 hC (pc := 28)  fl_RX1_37 dX1_bestCall_28 ?_
    refine k_icmp_ge hC (pc := 31) 105 dX1_bestCall_31 (by decide) (fun c_5 => ?_) (fun c_5 => ?_)
    · have h := h.1 c_5
      refine k_ldc2 hC (pc := 105) dX1_bestCall_105 cn_RX1_59 ?_
      refine k_lstore_n hC (pc := 108) dX1_bestCall_108 [(3, .long 1152921504606846976), (0, .ref (adr X.G a 0 25)), (1, .ref (adr X.G a 0 1)), (2, .int x2)] (by decide) rfl ?_
      refine k_iconst hC (pc := 109) (v := 0) dX1_bestCall_109 ic_0 ?_
      refine k_istore hC (pc := 110) dX1_bestCall_110 [(5, .int 0), (3, .long 1152921504606846976), (0, .ref (adr X.G a 0 25)), (1, .ref (adr X.G a 0 1)), (2, .int x2)] (by decide) rfl ?_
      refine k_sub [(0, .ref (adr X.G a 0 25)), (2, .int x2), (3, .long 1152921504606846976), (5, .int 0)] [2, 4, 1, 0] rfl ?_
      exact b_X1_bestCall_112 hC hR hQ hr N _ _ _ _ h
    · have h := h.2 c_5
      refine k_aload_n hC (pc := 34) dX1_bestCall_34 0 rfl ?_
      refine k_aload_n hC (pc := 35) dX1_bestCall_35 1 rfl ?_
      refine k_iload_n hC (pc := 36) dX1_bestCall_36 3 rfl ?_
      refine k_cv (rn_V hC (pc := 37) (As := [.ref (adr X.G a 0 1), .int x3]) (rest := []) ca_X1_lineUp ml_RX1_48 im_X1_lineUp se_X1_lineUp (fx_in f0_25) (ob0_25 _ _ _ _ _) rfl rfl (ct_X1_lineUp x3 h) (by rw [hR]; exact ⟨rfl, rfl, by decide, by decide⟩) rfl (Nat.le_of_ble_eq_true rfl) dX1_bestCall_37 ⟨by rw [hR]; decide, by rw [hR]; decide⟩) (fun s_11 h => ?_)
      refine k_iconst hC (pc := 40) (v := 0) dX1_bestCall_40 ic_0 ?_
      refine k_istore hC (pc := 41) dX1_bestCall_41 [(4, .int 0), (0, .ref (adr X.G a 0 25)), (1, .ref (adr X.G a 0 1)), (2, .int x2), (3, .int x3)] (by decide) rfl ?_
      refine k_sub [(0, .ref (adr X.G a 0 25)), (1, .ref (adr X.G a 0 1)), (2, .int x2), (3, .int x3), (4, .int 0)] [1, 2, 3, 4, 0] rfl ?_
      exact b_X1_bestCall_43 hC hR hQ hr ih N _ _ _ _ h
set_option maxHeartbeats 4000000 in
theorem b_X1_bestCall {X : Kx} {a : Ax} {N : Nat} {post : Int64 → Sx → Prop} (hC : Cx X cX1_bestCall 6 RX1) (hR : X.R = { frames := 3, cells := 0, slots := 0, locals := 73 }) (hQ : X.Q = MQ X.below (Ql X.G a post) X.av X.s 0 0 (bs_ X.G)) (hr : X.meth.sig.returnType = (some .long)) (hn : X.meth.name = "bestCall") (s : Sx) (h : w_X1_bestCall N s post) : wk X a s 6 0 [(0, .ref (adr X.G a 0 25)), (1, .ref (adr X.G a 0 1))] [] 0 0 := by
  unfold w_X1_bestCall at h
  refine k_iconst hC (pc := 0) (v := 1) dX1_bestCall_0 ic_1 ?_
  refine k_aload_n hC (pc := 1) dX1_bestCall_1 1 rfl ?_
  refine gf_X0_4 hC (pc := 2)  fl_RX1_41 dX1_bestCall_2 ?_
  refine k_ishl hC (pc := 5) dX1_bestCall_5 ?_
  refine k_topi (fun x_1 h_x_1 => ?_)
  have h := h x_1 h_x_1
  refine k_istore_n hC (pc := 6) dX1_bestCall_6 [(2, .int x_1), (0, .ref (adr X.G a 0 25)), (1, .ref (adr X.G a 0 1))] (by decide) rfl ?_
  refine k_aload_n hC (pc := 7) dX1_bestCall_7 1 rfl ?_
  refine gf_X1_8 hC (pc := 8)  fl_RX1_34 dX1_bestCall_8 ?_
  refine k_ldc2 hC (pc := 11) dX1_bestCall_11 cn_RX1_59 ?_
  refine k_cv (rn_S hC (pc := 14) (As := [.ref (adr X.G a 0 33), .long 1152921504606846976]) (rest := []) ca_J7_fill_d0a16 ml_RX1_61 sm_J7_fill_d0a16 (ct_J7_fill_d0a16 33 128 1152921504606846976 ra0_33 h) (by rw [hR]; exact ⟨rfl, rfl, by decide, by decide⟩) rfl (Nat.le_of_ble_eq_true rfl) dX1_bestCall_14 ⟨by rw [hR]; decide, by rw [hR]; decide⟩) (fun s_2 h => ?_)
  refine k_aload_n hC (pc := 17) dX1_bestCall_17 1 rfl ?_
  refine gf_X1_8 hC (pc := 18)  fl_RX1_34 dX1_bestCall_18 ?_
  refine k_iconst hC (pc := 21) (v := 0) dX1_bestCall_21 ic_0 ?_
  refine k_lconst hC (pc := 22) (v := 0) dX1_bestCall_22 rfl ?_
  obtain ⟨c_3, h⟩ := h
  refine r_last hC (pc := 23) ra0_33 c_3 dX1_bestCall_23 (fun s_4 h_s_4 => ?_)
  have h := h s_4 h_s_4
  refine k_iconst hC (pc := 24) (v := 0) dX1_bestCall_24 ic_0 ?_
  refine k_istore_n hC (pc := 25) dX1_bestCall_25 [(3, .int 0), (2, .int x_1), (0, .ref (adr X.G a 0 25)), (1, .ref (adr X.G a 0 1))] (by decide) rfl ?_
  refine k_sub [(0, .ref (adr X.G a 0 25)), (1, .ref (adr X.G a 0 1)), (2, .int x_1), (3, .int 0)] [2, 3, 1, 0] rfl ?_
  exact b_X1_bestCall_26 hC hR hQ hr N _ _ _ h
theorem ct_X1_bestCall {l : Launch} {G : Gx} {a : Ax} {s : Sx} {N : Nat} {post : Int64 → Sx → Prop} (h : w_X1_bestCall N s post) : Met l yX1_bestCall (Cond.code yX1_bestCall cX1_bestCall 6 (some .long) :: gw) { frames := 3, cells := 0, slots := 0, locals := 73 } (va_Pc [.ref (adr G a 0 25), .ref (adr G a 0 1)] (fun U => FU G a s U)) (Ql G a post) 0 0 (bs_ G) := met_of (plainFor_of_name (by decide)) (Nat.le_of_ble_eq_true rfl) rfl (fun X hC hl hR hQ hr hG hn => by subst hG; exact b_X1_bestCall hC hR hQ hr hn s h)
theorem ca_X1_bestCall : Ca yX1_bestCall cX1_bestCall 6 (some .long) 1 := ⟨cd_X1_bestCall, ii_RX1, by decide, by decide, by decide +kernel⟩
def w_X1_lostIn (N : Nat) (x0 : Int64) (s : Sx) (post : Int32 → Sx → Prop) : Prop := post ((x0 >>> ((20 : Int32).toInt64 &&& 63)).toInt32) s
set_option maxHeartbeats 4000000 in
theorem b_X1_lostIn {X : Kx} {a : Ax} {N : Nat} {post : Int32 → Sx → Prop} (hC : Cx X cX1_lostIn 2 RX1) (hR : X.R = { frames := 0, cells := 0, slots := 0, locals := 0 }) (hQ : X.Q = MQ X.below (Qi X.G a post) X.av X.s 0 0 (bs_ X.G)) (hr : X.meth.sig.returnType = (some .int)) (hn : X.meth.name = "lostIn") (s : Sx) (x0 : Int64) (h : w_X1_lostIn N x0 s post) : wk X a s 2 0 [(0, .long x0)] [] 0 0 := by
  unfold w_X1_lostIn at h
  refine k_lload_n hC (pc := 0) dX1_lostIn_0 0 rfl ?_
  refine k_bipush hC (pc := 1) (v := 20) dX1_lostIn_1 bp_20 ?_
  refine k_lshr hC (pc := 3) dX1_lostIn_3 ?_
  refine k_l2i hC (pc := 4) dX1_lostIn_4 ?_
  exact k_iret hC (pc := 5) hQ hr dX1_lostIn_5 h
theorem ct_X1_lostIn {l : Launch} {G : Gx} {a : Ax} {s : Sx} {N : Nat} {post : Int32 → Sx → Prop} (x0 : Int64) (h : w_X1_lostIn N x0 s post) : Met l yX1_lostIn (Cond.code yX1_lostIn cX1_lostIn 2 (some .int) :: gw) { frames := 0, cells := 0, slots := 0, locals := 0 } (va_Pc [.long x0] (fun U => FU G a s U)) (Qi G a post) 0 0 (bs_ G) := met_of (plainFor_of_name (by decide)) (Nat.le_of_ble_eq_true rfl) rfl (fun X hC hl hR hQ hr hG hn => by subst hG; exact b_X1_lostIn hC hR hQ hr hn s x0 h)
theorem ca_X1_lostIn : Ca yX1_lostIn cX1_lostIn 2 (some .int) 1 := ⟨cd_X1_lostIn, ii_RX1, by decide, by decide, by decide +kernel⟩
def w_X1_handsIn (N : Nat) (x0 : Int64) (s : Sx) (post : Int32 → Sx → Prop) : Prop := post (((x0 >>> ((14 : Int32).toInt64 &&& 63)).toInt32) &&& 63) s
set_option maxHeartbeats 4000000 in
theorem b_X1_handsIn {X : Kx} {a : Ax} {N : Nat} {post : Int32 → Sx → Prop} (hC : Cx X cX1_handsIn 2 RX1) (hR : X.R = { frames := 0, cells := 0, slots := 0, locals := 0 }) (hQ : X.Q = MQ X.below (Qi X.G a post) X.av X.s 0 0 (bs_ X.G)) (hr : X.meth.sig.returnType = (some .int)) (hn : X.meth.name = "handsIn") (s : Sx) (x0 : Int64) (h : w_X1_handsIn N x0 s post) : wk X a s 2 0 [(0, .long x0)] [] 0 0 := by
  unfold w_X1_handsIn at h
  refine k_lload_n hC (pc := 0) dX1_handsIn_0 0 rfl ?_
  refine k_bipush hC (pc := 1) (v := 14) dX1_handsIn_1 bp_14 ?_
  refine k_lshr hC (pc := 3) dX1_handsIn_3 ?_
  refine k_l2i hC (pc := 4) dX1_handsIn_4 ?_
  refine k_bipush hC (pc := 5) (v := 63) dX1_handsIn_5 bp_63 ?_
  refine k_iand hC (pc := 7) dX1_handsIn_7 ?_
  exact k_iret hC (pc := 8) hQ hr dX1_handsIn_8 h
theorem ct_X1_handsIn {l : Launch} {G : Gx} {a : Ax} {s : Sx} {N : Nat} {post : Int32 → Sx → Prop} (x0 : Int64) (h : w_X1_handsIn N x0 s post) : Met l yX1_handsIn (Cond.code yX1_handsIn cX1_handsIn 2 (some .int) :: gw) { frames := 0, cells := 0, slots := 0, locals := 0 } (va_Pc [.long x0] (fun U => FU G a s U)) (Qi G a post) 0 0 (bs_ G) := met_of (plainFor_of_name (by decide)) (Nat.le_of_ble_eq_true rfl) rfl (fun X hC hl hR hQ hr hG hn => by subst hG; exact b_X1_handsIn hC hR hQ hr hn s x0 h)
theorem ca_X1_handsIn : Ca yX1_handsIn cX1_handsIn 2 (some .int) 1 := ⟨cd_X1_handsIn, ii_RX1, by decide, by decide, by decide +kernel⟩
def w_X1_goalIn (N : Nat) (x0 : Int64) (x2 : Int32) (s : Sx) (post : Int32 → Sx → Prop) : Prop := w_X1_rowBit N x2 s (fun r_2 s_1 => post (((x0 >>> (r_2.toInt64 &&& 63)).toInt32) &&& 3) s_1)
set_option maxHeartbeats 4000000 in
theorem b_X1_goalIn {X : Kx} {a : Ax} {N : Nat} {post : Int32 → Sx → Prop} (hC : Cx X cX1_goalIn 3 RX1) (hR : X.R = { frames := 1, cells := 0, slots := 0, locals := 20 }) (hQ : X.Q = MQ X.below (Qi X.G a post) X.av X.s 0 0 (bs_ X.G)) (hr : X.meth.sig.returnType = (some .int)) (hn : X.meth.name = "goalIn") (s : Sx) (x0 : Int64) (x2 : Int32) (h : w_X1_goalIn N x0 x2 s post) : wk X a s 3 0 [(0, .long x0), (2, .int x2)] [] 0 0 := by
  unfold w_X1_goalIn at h
  refine k_lload_n hC (pc := 0) dX1_goalIn_0 0 rfl ?_
  refine k_iload_n hC (pc := 1) dX1_goalIn_1 1 rfl ?_
  refine k_ci (rn_S hC (pc := 2) (As := [.int x2]) (rest := [.long x0]) ca_X1_rowBit ml_RX1_81 sm_X1_rowBit (ct_X1_rowBit x2 h) (by rw [hR]; exact ⟨rfl, rfl, by decide, by decide⟩) rfl (Nat.le_of_ble_eq_true rfl) dX1_goalIn_2 ⟨by rw [hR]; decide, by rw [hR]; decide⟩) (fun r_2 s_1 h => ?_)
  refine k_lshr hC (pc := 5) dX1_goalIn_5 ?_
  refine k_l2i hC (pc := 6) dX1_goalIn_6 ?_
  refine k_iconst hC (pc := 7) (v := 3) dX1_goalIn_7 ic_3 ?_
  refine k_iand hC (pc := 8) dX1_goalIn_8 ?_
  exact k_iret hC (pc := 9) hQ hr dX1_goalIn_9 h
theorem ct_X1_goalIn {l : Launch} {G : Gx} {a : Ax} {s : Sx} {N : Nat} {post : Int32 → Sx → Prop} (x0 : Int64) (x2 : Int32) (h : w_X1_goalIn N x0 x2 s post) : Met l yX1_goalIn (Cond.code yX1_goalIn cX1_goalIn 3 (some .int) :: gw) { frames := 1, cells := 0, slots := 0, locals := 20 } (va_Pc [.long x0, .int x2] (fun U => FU G a s U)) (Qi G a post) 0 0 (bs_ G) := met_of (plainFor_of_name (by decide)) (Nat.le_of_ble_eq_true rfl) rfl (fun X hC hl hR hQ hr hG hn => by subst hG; exact b_X1_goalIn hC hR hQ hr hn s x0 x2 h)
theorem ca_X1_goalIn : Ca yX1_goalIn cX1_goalIn 3 (some .int) 2 := ⟨cd_X1_goalIn, ii_RX1, by decide, by decide, by decide +kernel⟩
def w_X2_init (N : Nat) (p0 : Nat) (p1 : Nat) (x2 : Int32) (s : Sx) (post : Sx → Prop) : Prop := p1 < s.2.2 6 ∧ p0 < s.2.2 2 ∧ ∀ s_3, s_3 = setI s 2 p0 0 (s.1 4 p1 6) → p1 < s_3.2.2 6 ∧ p0 < s_3.2.2 2 ∧ ∀ s_6, s_6 = setI s_3 2 p0 1 (s_3.1 4 p1 7) → p1 < s_6.2.2 6 ∧ p0 < s_6.2.2 2 ∧ ∀ s_9, s_9 = setI s_6 2 p0 2 (s_6.1 4 p1 8) → p1 < s_9.2.2 6 ∧ p0 < s_9.2.2 2 ∧ ∀ s_12, s_12 = setI s_9 2 p0 3 (s_9.1 4 p1 9) → p1 < s_12.2.2 6 ∧ p0 < s_12.2.2 2 ∧ ∀ s_15, s_15 = setI s_12 2 p0 4 (s_12.1 4 p1 10) → p1 < s_15.2.2 6 ∧ p0 < s_15.2.2 2 ∧ ∀ s_18, s_18 = setI s_15 2 p0 5 (s_15.1 4 p1 11) → p0 < s_18.2.2 2 ∧ ∀ s_20, s_20 = setI s_18 2 p0 6 x2 → post s_20
set_option maxHeartbeats 4000000 in
theorem b_X2_init {X : Kx} {a : Ax} {N : Nat} {post : Sx → Prop} (hC : Cx X cX2_init 3 RX2) (hR : X.R = { frames := 1, cells := 0, slots := 0, locals := 20 }) (hQ : X.Q = MQ X.below (Qv X.G a post) X.av X.s 0 0 (bs_ X.G)) (hr : X.meth.sig.returnType = none) (hn : X.meth.name = "<init>") (s : Sx) (p0 : Nat) (p1 : Nat) (x2 : Int32) (h : w_X2_init N p0 p1 x2 s post) : wk X a s 3 0 [(0, .ref (adr X.G a 2 p0)), (1, .ref (adr X.G a 4 p1)), (2, .int x2)] [] 0 0 := by
  unfold w_X2_init at h
  refine k_aload_n hC (pc := 0) dX2_init_0 0 rfl ?_
  refine k_objInit hC (pc := 1) ml_RX2_3 rfl (by rw [hR]; decide) (by rw [hR]; decide) dX2_init_1 ?_
  refine k_aload_n hC (pc := 4) dX2_init_4 0 rfl ?_
  refine k_aload_n hC (pc := 5) dX2_init_5 1 rfl ?_
  obtain ⟨c_1, h⟩ := h
  refine gf_X3_6 hC (pc := 6) c_1 fl_RX2_9 dX2_init_6 ?_
  obtain ⟨c_2, h⟩ := h
  refine pf_X2_0 hC (pc := 9) hn c_2 rfl fl_RX2_15 dX2_init_9 (fun s_3 h_s_3 => ?_)
  have h := h s_3 h_s_3
  refine k_aload_n hC (pc := 12) dX2_init_12 0 rfl ?_
  refine k_aload_n hC (pc := 13) dX2_init_13 1 rfl ?_
  obtain ⟨c_4, h⟩ := h
  refine gf_X3_7 hC (pc := 14) c_4 fl_RX2_18 dX2_init_14 ?_
  obtain ⟨c_5, h⟩ := h
  refine pf_X2_1 hC (pc := 17) hn c_5 rfl fl_RX2_21 dX2_init_17 (fun s_6 h_s_6 => ?_)
  have h := h s_6 h_s_6
  refine k_aload_n hC (pc := 20) dX2_init_20 0 rfl ?_
  refine k_aload_n hC (pc := 21) dX2_init_21 1 rfl ?_
  obtain ⟨c_7, h⟩ := h
  refine gf_X3_8 hC (pc := 22) c_7 fl_RX2_22 dX2_init_22 ?_
  obtain ⟨c_8, h⟩ := h
  refine pf_X2_2 hC (pc := 25) hn c_8 rfl fl_RX2_25 dX2_init_25 (fun s_9 h_s_9 => ?_)
  have h := h s_9 h_s_9
  refine k_aload_n hC (pc := 28) dX2_init_28 0 rfl ?_
  refine k_aload_n hC (pc := 29) dX2_init_29 1 rfl ?_
  obtain ⟨c_10, h⟩ := h
  refine gf_X3_9 hC (pc := 30) c_10 fl_RX2_26 dX2_init_30 ?_
  obtain ⟨c_11, h⟩ := h
  refine pf_X2_3 hC (pc := 33) hn c_11 rfl fl_RX2_29 dX2_init_33 (fun s_12 h_s_12 => ?_)
  have h := h s_12 h_s_12
  refine k_aload_n hC (pc := 36) dX2_init_36 0 rfl ?_
  refine k_aload_n hC (pc := 37) dX2_init_37 1 rfl ?_
  obtain ⟨c_13, h⟩ := h
  refine gf_X3_10 hC (pc := 38) c_13 fl_RX2_30 dX2_init_38 ?_
  obtain ⟨c_14, h⟩ := h
  refine pf_X2_4 hC (pc := 41) hn c_14 rfl fl_RX2_33 dX2_init_41 (fun s_15 h_s_15 => ?_)
  have h := h s_15 h_s_15
  refine k_aload_n hC (pc := 44) dX2_init_44 0 rfl ?_
  refine k_aload_n hC (pc := 45) dX2_init_45 1 rfl ?_
  obtain ⟨c_16, h⟩ := h
  refine gf_X3_11 hC (pc := 46) c_16 fl_RX2_34 dX2_init_46 ?_
  obtain ⟨c_17, h⟩ := h
  refine pf_X2_5 hC (pc := 49) hn c_17 rfl fl_RX2_37 dX2_init_49 (fun s_18 h_s_18 => ?_)
  have h := h s_18 h_s_18
  refine k_aload_n hC (pc := 52) dX2_init_52 0 rfl ?_
  refine k_iload_n hC (pc := 53) dX2_init_53 2 rfl ?_
  obtain ⟨c_19, h⟩ := h
  refine pf_X2_6 hC (pc := 54) hn c_19 rfl fl_RX2_38 dX2_init_54 (fun s_20 h_s_20 => ?_)
  have h := h s_20 h_s_20
  exact k_vret hC (pc := 57) hQ hr dX2_init_57 h
theorem ct_X2_init {l : Launch} {G : Gx} {a : Ax} {s : Sx} {N : Nat} {post : Sx → Prop} (p0 : Nat) (p1 : Nat) (x2 : Int32) (h : w_X2_init N p0 p1 x2 s post) : Met l yX2_init (Cond.code yX2_init cX2_init 3 none :: gw) { frames := 1, cells := 0, slots := 0, locals := 20 } (va_Pc [.ref (adr G a 2 p0), .ref (adr G a 4 p1), .int x2] (fun U => FU G a s U)) (Qv G a post) 0 0 (bs_ G) := met_of (plainFor_of_name (by decide)) (Nat.le_of_ble_eq_true rfl) rfl (fun X hC hl hR hQ hr hG hn => by subst hG; exact b_X2_init hC hR hQ hr hn s p0 p1 x2 h)
theorem ca_X2_init : Ca yX2_init cX2_init 3 none 2 := ⟨cd_X2_init, ii_RX2, by decide, by decide, by decide +kernel⟩
def w_X2_tellsOf (N : Nat) (p0 : Nat) (x1 : Int32) (x2 : Int32) (x3 : Int32) (s : Sx) (post : Int32 → Sx → Prop) : Prop := p0 < s.2.2 2 ∧ p0 < s.2.2 2 ∧ w_X11_isWithin N x2 (s.1 2 p0 1) (s.1 2 p0 2) s (fun r_4 s_3 => (r_4 = 0 → post 0 s_3) ∧ (¬ (r_4 = 0) → p0 < s_3.2.2 2 ∧ p0 < s_3.2.2 2 ∧ w_X11_isWithin N x3 (s_3.1 2 p0 3) (s_3.1 2 p0 4) s_3 (fun r_9 s_8 => (r_9 = 0 → post 0 s_8) ∧ (¬ (r_9 = 0) → p0 < s_8.2.2 2 ∧ (¬ (((s_8.1 2 p0 5) >>> (x1 &&& 31)) &&& 1) = 0 → post 0 s_8) ∧ (¬ (¬ (((s_8.1 2 p0 5) >>> (x1 &&& 31)) &&& 1) = 0) → post 1 s_8)))))
set_option maxHeartbeats 4000000 in
theorem b_X2_tellsOf {X : Kx} {a : Ax} {N : Nat} {post : Int32 → Sx → Prop} (hC : Cx X cX2_tellsOf 4 RX2) (hR : X.R = { frames := 1, cells := 0, slots := 0, locals := 22 }) (hQ : X.Q = MQ X.below (Qi X.G a post) X.av X.s 0 0 (bs_ X.G)) (hr : X.meth.sig.returnType = (some .boolean)) (hn : X.meth.name = "tellsOf") (s : Sx) (p0 : Nat) (x1 : Int32) (x2 : Int32) (x3 : Int32) (h : w_X2_tellsOf N p0 x1 x2 x3 s post) : wk X a s 4 0 [(0, .ref (adr X.G a 2 p0)), (1, .int x1), (2, .int x2), (3, .int x3)] [] 0 0 := by
  unfold w_X2_tellsOf at h
  refine k_iload_n hC (pc := 0) dX2_tellsOf_0 2 rfl ?_
  refine k_aload_n hC (pc := 1) dX2_tellsOf_1 0 rfl ?_
  obtain ⟨c_1, h⟩ := h
  refine gf_X2_1 hC (pc := 2) c_1 fl_RX2_21 dX2_tellsOf_2 ?_
  refine k_aload_n hC (pc := 5) dX2_tellsOf_5 0 rfl ?_
  obtain ⟨c_2, h⟩ := h
  refine gf_X2_2 hC (pc := 6) c_2 fl_RX2_25 dX2_tellsOf_6 ?_
  refine k_ci (rn_SN hC (pc := 9) (As := [.int x2, .int (s.1 2 p0 1), .int (s.1 2 p0 2)]) (rest := []) ca_X11_isWithin nl_RX2_41 sm_X11_isWithin (ct_X11_isWithin x2 (s.1 2 p0 1) (s.1 2 p0 2) h) (by rw [hR]; exact ⟨rfl, rfl, by decide, by decide⟩) rfl (Nat.le_of_ble_eq_true rfl) dX2_tellsOf_9 ⟨by rw [hR]; decide, by rw [hR]; decide⟩) (fun r_4 s_3 h => ?_)
  refine k_if_eq hC (pc := 12) 45 dX2_tellsOf_12 (by decide) (fun c_5 => ?_) (fun c_5 => ?_)
  · have h := h.1 c_5
    refine k_iconst hC (pc := 45) (v := 0) dX2_tellsOf_45 ic_0 ?_
    exact k_zret hC (pc := 46) hQ hr dX2_tellsOf_46 (Or.inl rfl) h
  · have h := h.2 c_5
    refine k_iload_n hC (pc := 15) dX2_tellsOf_15 3 rfl ?_
    refine k_aload_n hC (pc := 16) dX2_tellsOf_16 0 rfl ?_
    obtain ⟨c_6, h⟩ := h
    refine gf_X2_3 hC (pc := 17) c_6 fl_RX2_29 dX2_tellsOf_17 ?_
    refine k_aload_n hC (pc := 20) dX2_tellsOf_20 0 rfl ?_
    obtain ⟨c_7, h⟩ := h
    refine gf_X2_4 hC (pc := 21) c_7 fl_RX2_33 dX2_tellsOf_21 ?_
    refine k_ci (rn_SN hC (pc := 24) (As := [.int x3, .int (s_3.1 2 p0 3), .int (s_3.1 2 p0 4)]) (rest := []) ca_X11_isWithin nl_RX2_41 sm_X11_isWithin (ct_X11_isWithin x3 (s_3.1 2 p0 3) (s_3.1 2 p0 4) h) (by rw [hR]; exact ⟨rfl, rfl, by decide, by decide⟩) rfl (Nat.le_of_ble_eq_true rfl) dX2_tellsOf_24 ⟨by rw [hR]; decide, by rw [hR]; decide⟩) (fun r_9 s_8 h => ?_)
    refine k_if_eq hC (pc := 27) 45 dX2_tellsOf_27 (by decide) (fun c_10 => ?_) (fun c_10 => ?_)
    · have h := h.1 c_10
      refine k_iconst hC (pc := 45) (v := 0) dX2_tellsOf_45 ic_0 ?_
      exact k_zret hC (pc := 46) hQ hr dX2_tellsOf_46 (Or.inl rfl) h
    · have h := h.2 c_10
      refine k_aload_n hC (pc := 30) dX2_tellsOf_30 0 rfl ?_
      obtain ⟨c_11, h⟩ := h
      refine gf_X2_5 hC (pc := 31) c_11 fl_RX2_37 dX2_tellsOf_31 ?_
      refine k_iload_n hC (pc := 34) dX2_tellsOf_34 1 rfl ?_
      refine k_ishr hC (pc := 35) dX2_tellsOf_35 ?_
      refine k_iconst hC (pc := 36) (v := 1) dX2_tellsOf_36 ic_1 ?_
      refine k_iand hC (pc := 37) dX2_tellsOf_37 ?_
      refine k_if_ne hC (pc := 38) 45 dX2_tellsOf_38 (by decide) (fun c_12 => ?_) (fun c_12 => ?_)
      · have h := h.1 c_12
        refine k_iconst hC (pc := 45) (v := 0) dX2_tellsOf_45 ic_0 ?_
        exact k_zret hC (pc := 46) hQ hr dX2_tellsOf_46 (Or.inl rfl) h
      · have h := h.2 c_12
        refine k_iconst hC (pc := 41) (v := 1) dX2_tellsOf_41 ic_1 ?_
        refine k_goto hC (pc := 42) 46 dX2_tellsOf_42 (by decide) ?_
        exact k_zret hC (pc := 46) hQ hr dX2_tellsOf_46 (Or.inr rfl) h
theorem ct_X2_tellsOf {l : Launch} {G : Gx} {a : Ax} {s : Sx} {N : Nat} {post : Int32 → Sx → Prop} (p0 : Nat) (x1 : Int32) (x2 : Int32) (x3 : Int32) (h : w_X2_tellsOf N p0 x1 x2 x3 s post) : Met l yX2_tellsOf (Cond.code yX2_tellsOf cX2_tellsOf 4 (some .boolean) :: gw) { frames := 1, cells := 0, slots := 0, locals := 22 } (va_Pc [.ref (adr G a 2 p0), .int x1, .int x2, .int x3] (fun U => FU G a s U)) (Qi G a post) 0 0 (bs_ G) := met_of (plainFor_of_name (by decide)) (Nat.le_of_ble_eq_true rfl) rfl (fun X hC hl hR hQ hr hG hn => by subst hG; exact b_X2_tellsOf hC hR hQ hr hn s p0 x1 x2 x3 h)
theorem ca_X2_tellsOf : Ca yX2_tellsOf cX2_tellsOf 4 (some .boolean) 3 := ⟨cd_X2_tellsOf, ii_RX2, by decide, by decide, by decide +kernel⟩
def w_X2_fact (N : Nat) (p0 : Nat) (x1 : Int32) (s : Sx) (post : Int32 → Sx → Prop) : Prop := (x1 = 0 → p0 < s.2.2 2 ∧ post (s.1 2 p0 0) s) ∧ (¬ (x1 = 0) → (x1 = 1 → p0 < s.2.2 2 ∧ post (s.1 2 p0 1) s) ∧ (¬ (x1 = 1) → (x1 = 2 → p0 < s.2.2 2 ∧ post (s.1 2 p0 2) s) ∧ (¬ (x1 = 2) → (x1 = 3 → p0 < s.2.2 2 ∧ post (s.1 2 p0 3) s) ∧ (¬ (x1 = 3) → (x1 = 4 → p0 < s.2.2 2 ∧ post (s.1 2 p0 4) s) ∧ (¬ (x1 = 4) → (x1 = 5 → p0 < s.2.2 2 ∧ post (s.1 2 p0 5) s) ∧ (¬ (x1 = 5) → (x1 = 6 → p0 < s.2.2 2 ∧ post (s.1 2 p0 6) s) ∧ (¬ (x1 = 6) → post ((-2)) s)))))))
set_option maxHeartbeats 4000000 in
theorem b_X2_fact {X : Kx} {a : Ax} {N : Nat} {post : Int32 → Sx → Prop} (hC : Cx X cX2_fact 2 RX2) (hR : X.R = { frames := 0, cells := 0, slots := 0, locals := 0 }) (hQ : X.Q = MQ X.below (Qi X.G a post) X.av X.s 0 0 (bs_ X.G)) (hr : X.meth.sig.returnType = (some .int)) (hn : X.meth.name = "fact") (s : Sx) (p0 : Nat) (x1 : Int32) (h : w_X2_fact N p0 x1 s post) : wk X a s 2 0 [(0, .ref (adr X.G a 2 p0)), (1, .int x1)] [] 0 0 := by
  unfold w_X2_fact at h
  refine k_iload_n hC (pc := 0) dX2_fact_0 1 rfl ?_
  by_cases c_2 : x1 = 0
  · have h := h.1 c_2
    refine k_tsIn hC (pc := 1) (x := x1) 44 dX2_fact_1 (by rw [c_2]; decide) (by rw [c_2]; decide) (by rw [c_2]; rfl) (by decide) ?_
    refine k_aload_n hC (pc := 44) dX2_fact_44 0 rfl ?_
    obtain ⟨c_1, h⟩ := h
    refine gf_X2_0 hC (pc := 45) c_1 fl_RX2_15 dX2_fact_45 ?_
    exact k_iret hC (pc := 48) hQ hr dX2_fact_48 h
  · have h := h.2 c_2
    by_cases c_4 : x1 = 1
    · have h := h.1 c_4
      refine k_tsIn hC (pc := 1) (x := x1) 49 dX2_fact_1 (by rw [c_4]; decide) (by rw [c_4]; decide) (by rw [c_4]; rfl) (by decide) ?_
      refine k_aload_n hC (pc := 49) dX2_fact_49 0 rfl ?_
      obtain ⟨c_3, h⟩ := h
      refine gf_X2_1 hC (pc := 50) c_3 fl_RX2_21 dX2_fact_50 ?_
      exact k_iret hC (pc := 53) hQ hr dX2_fact_53 h
    · have h := h.2 c_4
      by_cases c_6 : x1 = 2
      · have h := h.1 c_6
        refine k_tsIn hC (pc := 1) (x := x1) 54 dX2_fact_1 (by rw [c_6]; decide) (by rw [c_6]; decide) (by rw [c_6]; rfl) (by decide) ?_
        refine k_aload_n hC (pc := 54) dX2_fact_54 0 rfl ?_
        obtain ⟨c_5, h⟩ := h
        refine gf_X2_2 hC (pc := 55) c_5 fl_RX2_25 dX2_fact_55 ?_
        exact k_iret hC (pc := 58) hQ hr dX2_fact_58 h
      · have h := h.2 c_6
        by_cases c_8 : x1 = 3
        · have h := h.1 c_8
          refine k_tsIn hC (pc := 1) (x := x1) 59 dX2_fact_1 (by rw [c_8]; decide) (by rw [c_8]; decide) (by rw [c_8]; rfl) (by decide) ?_
          refine k_aload_n hC (pc := 59) dX2_fact_59 0 rfl ?_
          obtain ⟨c_7, h⟩ := h
          refine gf_X2_3 hC (pc := 60) c_7 fl_RX2_29 dX2_fact_60 ?_
          exact k_iret hC (pc := 63) hQ hr dX2_fact_63 h
        · have h := h.2 c_8
          by_cases c_10 : x1 = 4
          · have h := h.1 c_10
            refine k_tsIn hC (pc := 1) (x := x1) 64 dX2_fact_1 (by rw [c_10]; decide) (by rw [c_10]; decide) (by rw [c_10]; rfl) (by decide) ?_
            refine k_aload_n hC (pc := 64) dX2_fact_64 0 rfl ?_
            obtain ⟨c_9, h⟩ := h
            refine gf_X2_4 hC (pc := 65) c_9 fl_RX2_33 dX2_fact_65 ?_
            exact k_iret hC (pc := 68) hQ hr dX2_fact_68 h
          · have h := h.2 c_10
            by_cases c_12 : x1 = 5
            · have h := h.1 c_12
              refine k_tsIn hC (pc := 1) (x := x1) 69 dX2_fact_1 (by rw [c_12]; decide) (by rw [c_12]; decide) (by rw [c_12]; rfl) (by decide) ?_
              refine k_aload_n hC (pc := 69) dX2_fact_69 0 rfl ?_
              obtain ⟨c_11, h⟩ := h
              refine gf_X2_5 hC (pc := 70) c_11 fl_RX2_37 dX2_fact_70 ?_
              exact k_iret hC (pc := 73) hQ hr dX2_fact_73 h
            · have h := h.2 c_12
              by_cases c_14 : x1 = 6
              · have h := h.1 c_14
                refine k_tsIn hC (pc := 1) (x := x1) 74 dX2_fact_1 (by rw [c_14]; decide) (by rw [c_14]; decide) (by rw [c_14]; rfl) (by decide) ?_
                refine k_aload_n hC (pc := 74) dX2_fact_74 0 rfl ?_
                obtain ⟨c_13, h⟩ := h
                refine gf_X2_6 hC (pc := 75) c_13 fl_RX2_38 dX2_fact_75 ?_
                exact k_iret hC (pc := 78) hQ hr dX2_fact_78 h
              · have h := h.2 c_14
                refine k_tsOut hC (pc := 1) (x := x1) 79 dX2_fact_1 (ts_out7 c_2 c_4 c_6 c_8 c_10 c_12 c_14) (by decide) ?_
                refine k_bipush hC (pc := 79) (v := (-2)) dX2_fact_79 bp_m2 ?_
                exact k_iret hC (pc := 81) hQ hr dX2_fact_81 h
theorem ct_X2_fact {l : Launch} {G : Gx} {a : Ax} {s : Sx} {N : Nat} {post : Int32 → Sx → Prop} (p0 : Nat) (x1 : Int32) (h : w_X2_fact N p0 x1 s post) : Met l yX2_fact (Cond.code yX2_fact cX2_fact 2 (some .int) :: gw) { frames := 0, cells := 0, slots := 0, locals := 0 } (va_Pc [.ref (adr G a 2 p0), .int x1] (fun U => FU G a s U)) (Qi G a post) 0 0 (bs_ G) := met_of (plainFor_of_name (by decide)) (Nat.le_of_ble_eq_true rfl) rfl (fun X hC hl hR hQ hr hG hn => by subst hG; exact b_X2_fact hC hR hQ hr hn s p0 x1 h)
theorem ca_X2_fact : Ca yX2_fact cX2_fact 2 (some .int) 1 := ⟨cd_X2_fact, ii_RX2, by decide, by decide, by decide +kernel⟩
def w_X3_init (N : Nat) (p0 : Nat) (k1 : Nat) (x2 : Int32) (x3 : Int32) (x4 : Int32) (s : Sx) (post : Sx → Prop) : Prop := k1 < 4 ∧ p0 < s.2.2 6 ∧ ∀ s_2, s_2 = setI s 4 p0 5 ((-1)) → p0 < s_2.2.2 6 ∧ ∀ s_4, s_4 = setI s_2 4 p0 0 (nI (k1 + 1)) → p0 < s_4.2.2 6 ∧ ∀ s_6, s_6 = setI s_4 4 p0 1 x2 → p0 < s_6.2.2 6 ∧ ∀ s_8, s_8 = setI s_6 4 p0 2 x3 → p0 < s_8.2.2 6 ∧ ∀ s_10, s_10 = setI s_8 4 p0 3 x4 → post s_10
set_option maxHeartbeats 4000000 in
theorem b_X3_init {X : Kx} {a : Ax} {N : Nat} {post : Sx → Prop} (hC : Cx X cX3_init 5 RX3) (hR : X.R = { frames := 1, cells := 0, slots := 0, locals := 20 }) (hQ : X.Q = MQ X.below (Qv X.G a post) X.av X.s 0 0 (bs_ X.G)) (hr : X.meth.sig.returnType = none) (hn : X.meth.name = "<init>") (s : Sx) (p0 : Nat) (k1 : Nat) (x2 : Int32) (x3 : Int32) (x4 : Int32) (h : w_X3_init N p0 k1 x2 x3 x4 s post) : wk X a s 5 0 [(0, .ref (adr X.G a 4 p0)), (1, .ref (adr X.G a 0 (42 + k1))), (2, .int x2), (3, .int x3), (4, .int x4)] [] 0 0 := by
  unfold w_X3_init at h
  obtain ⟨hk1, h⟩ := h
  refine k_aload_n hC (pc := 0) dX3_init_0 0 rfl ?_
  refine k_objInit hC (pc := 1) ml_RX3_3 rfl (by rw [hR]; decide) (by rw [hR]; decide) dX3_init_1 ?_
  refine k_aload_n hC (pc := 4) dX3_init_4 0 rfl ?_
  refine k_iconst hC (pc := 5) (v := (-1)) dX3_init_5 ic_m1 ?_
  obtain ⟨c_1, h⟩ := h
  refine pf_X3_5 hC (pc := 6) c_1 fl_RX3_11 dX3_init_6 (fun s_2 h_s_2 => ?_)
  have h := h s_2 h_s_2
  refine k_aload_n hC (pc := 9) dX3_init_9 0 rfl ?_
  refine k_aload_n hC (pc := 10) dX3_init_10 1 rfl ?_
  obtain ⟨c_3, h⟩ := h
  refine pf_X3_0 hC (pc := 11) hn c_3 hk1 rfl fl_RX3_15 dX3_init_11 (fun s_4 h_s_4 => ?_)
  have h := h s_4 h_s_4
  refine k_aload_n hC (pc := 14) dX3_init_14 0 rfl ?_
  refine k_iload_n hC (pc := 15) dX3_init_15 2 rfl ?_
  obtain ⟨c_5, h⟩ := h
  refine pf_X3_1 hC (pc := 16) hn c_5 rfl fl_RX3_19 dX3_init_16 (fun s_6 h_s_6 => ?_)
  have h := h s_6 h_s_6
  refine k_aload_n hC (pc := 19) dX3_init_19 0 rfl ?_
  refine k_iload_n hC (pc := 20) dX3_init_20 3 rfl ?_
  obtain ⟨c_7, h⟩ := h
  refine pf_X3_2 hC (pc := 21) hn c_7 rfl fl_RX3_22 dX3_init_21 (fun s_8 h_s_8 => ?_)
  have h := h s_8 h_s_8
  refine k_aload_n hC (pc := 24) dX3_init_24 0 rfl ?_
  refine k_iload hC (pc := 25) dX3_init_25 4 rfl ?_
  obtain ⟨c_9, h⟩ := h
  refine pf_X3_3 hC (pc := 27) hn c_9 rfl fl_RX3_25 dX3_init_27 (fun s_10 h_s_10 => ?_)
  have h := h s_10 h_s_10
  exact k_vret hC (pc := 30) hQ hr dX3_init_30 h
theorem ct_X3_init {l : Launch} {G : Gx} {a : Ax} {s : Sx} {N : Nat} {post : Sx → Prop} (p0 : Nat) (k1 : Nat) (x2 : Int32) (x3 : Int32) (x4 : Int32) (h : w_X3_init N p0 k1 x2 x3 x4 s post) : Met l yX3_init (Cond.code yX3_init cX3_init 5 none :: gw) { frames := 1, cells := 0, slots := 0, locals := 20 } (va_Pc [.ref (adr G a 4 p0), .ref (adr G a 0 (42 + k1)), .int x2, .int x3, .int x4] (fun U => FU G a s U)) (Qv G a post) 0 0 (bs_ G) := met_of (plainFor_of_name (by decide)) (Nat.le_of_ble_eq_true rfl) rfl (fun X hC hl hR hQ hr hG hn => by subst hG; exact b_X3_init hC hR hQ hr hn s p0 k1 x2 x3 x4 h)
theorem ca_X3_init : Ca yX3_init cX3_init 5 none 4 := ⟨cd_X3_init, ii_RX3, by decide, by decide, by decide +kernel⟩
def w_X3_isFaulty (N : Nat) (p0 : Nat) (s : Sx) (post : Int32 → Sx → Prop) : Prop := p0 < s.2.2 6 ∧ ((s.1 4 p0 5) = ((-1)) → post 0 s) ∧ (¬ ((s.1 4 p0 5) = ((-1))) → post 1 s)
set_option maxHeartbeats 4000000 in
theorem b_X3_isFaulty {X : Kx} {a : Ax} {N : Nat} {post : Int32 → Sx → Prop} (hC : Cx X cX3_isFaulty 1 RX3) (hR : X.R = { frames := 0, cells := 0, slots := 0, locals := 0 }) (hQ : X.Q = MQ X.below (Qi X.G a post) X.av X.s 0 0 (bs_ X.G)) (hr : X.meth.sig.returnType = (some .boolean)) (hn : X.meth.name = "isFaulty") (s : Sx) (p0 : Nat) (h : w_X3_isFaulty N p0 s post) : wk X a s 1 0 [(0, .ref (adr X.G a 4 p0))] [] 0 0 := by
  unfold w_X3_isFaulty at h
  refine k_aload_n hC (pc := 0) dX3_isFaulty_0 0 rfl ?_
  obtain ⟨c_1, h⟩ := h
  refine gf_X3_5 hC (pc := 1) c_1 fl_RX3_11 dX3_isFaulty_1 ?_
  refine k_iconst hC (pc := 4) (v := (-1)) dX3_isFaulty_4 ic_m1 ?_
  refine k_icmp_eq hC (pc := 5) 12 dX3_isFaulty_5 (by decide) (fun c_2 => ?_) (fun c_2 => ?_)
  · have h := h.1 c_2
    refine k_iconst hC (pc := 12) (v := 0) dX3_isFaulty_12 ic_0 ?_
    exact k_zret hC (pc := 13) hQ hr dX3_isFaulty_13 (Or.inl rfl) h
  · have h := h.2 c_2
    refine k_iconst hC (pc := 8) (v := 1) dX3_isFaulty_8 ic_1 ?_
    refine k_goto hC (pc := 9) 13 dX3_isFaulty_9 (by decide) ?_
    exact k_zret hC (pc := 13) hQ hr dX3_isFaulty_13 (Or.inr rfl) h
theorem ct_X3_isFaulty {l : Launch} {G : Gx} {a : Ax} {s : Sx} {N : Nat} {post : Int32 → Sx → Prop} (p0 : Nat) (h : w_X3_isFaulty N p0 s post) : Met l yX3_isFaulty (Cond.code yX3_isFaulty cX3_isFaulty 1 (some .boolean) :: gw) { frames := 0, cells := 0, slots := 0, locals := 0 } (va_Pc [.ref (adr G a 4 p0)] (fun U => FU G a s U)) (Qi G a post) 0 0 (bs_ G) := met_of (plainFor_of_name (by decide)) (Nat.le_of_ble_eq_true rfl) rfl (fun X hC hl hR hQ hr hG hn => by subst hG; exact b_X3_isFaulty hC hR hQ hr hn s p0 h)
theorem ca_X3_isFaulty : Ca yX3_isFaulty cX3_isFaulty 1 (some .boolean) 0 := ⟨cd_X3_isFaulty, ii_RX3, by decide, by decide, by decide +kernel⟩
def w_X7_read (N : Nat) (k0 : Nat) (x1 : Int32) (s : Sx) (post : Int32 → Sx → Prop) : Prop := k0 < 4 ∧ w_X11_isWithin N x1 0 59 s (fun r_2 s_1 => (r_2 = 0 → post 0 s_1) ∧ (¬ (r_2 = 0) → vp_in x1 60 ∧ post (s_1.1 0 (46 + k0) x1.toNatClampNeg) s_1))
set_option maxHeartbeats 4000000 in
theorem b_X7_read {X : Kx} {a : Ax} {N : Nat} {post : Int32 → Sx → Prop} (hC : Cx X cX7_read 2 RX7) (hR : X.R = { frames := 1, cells := 0, slots := 0, locals := 22 }) (hQ : X.Q = MQ X.below (Qi X.G a post) X.av X.s 0 0 (bs_ X.G)) (hr : X.meth.sig.returnType = (some .int)) (hn : X.meth.name = "read") (s : Sx) (k0 : Nat) (x1 : Int32) (h : w_X7_read N k0 x1 s post) : wk X a s 2 0 [(0, .ref (adr X.G a 0 (42 + k0))), (1, .int x1)] [] 0 0 := by
  unfold w_X7_read at h
  obtain ⟨hk0, h⟩ := h
  refine k_iload_n hC (pc := 0) dX7_read_0 1 rfl ?_
  refine k_iconst hC (pc := 1) (v := 0) dX7_read_1 ic_0 ?_
  refine k_bipush hC (pc := 2) (v := 59) dX7_read_2 bp_59 ?_
  refine k_ci (rn_SN hC (pc := 4) (As := [.int x1, .int 0, .int 59]) (rest := []) ca_X11_isWithin nl_RX7_28 sm_X11_isWithin (ct_X11_isWithin x1 0 59 h) (by rw [hR]; exact ⟨rfl, rfl, by decide, by decide⟩) rfl (Nat.le_of_ble_eq_true rfl) dX7_read_4 ⟨by rw [hR]; decide, by rw [hR]; decide⟩) (fun r_2 s_1 h => ?_)
  refine k_if_eq hC (pc := 7) 19 dX7_read_7 (by decide) (fun c_3 => ?_) (fun c_3 => ?_)
  · have h := h.1 c_3
    refine k_iconst hC (pc := 19) (v := 0) dX7_read_19 ic_0 ?_
    exact k_iret hC (pc := 20) hQ hr dX7_read_20 h
  · have h := h.2 c_3
    refine k_aload_n hC (pc := 10) dX7_read_10 0 rfl ?_
    refine gf_X7_0 hC (pc := 11) hk0 fl_RX7_11 dX7_read_11 ?_
    refine k_iload_n hC (pc := 14) dX7_read_14 1 rfl ?_
    obtain ⟨c_4, h⟩ := h
    refine r_iald hC (pc := 15) (ia_sc hk0) c_4 dX7_read_15 ?_
    refine k_goto hC (pc := 16) 20 dX7_read_16 (by decide) ?_
    exact k_iret hC (pc := 20) hQ hr dX7_read_20 h
theorem ct_X7_read {l : Launch} {G : Gx} {a : Ax} {s : Sx} {N : Nat} {post : Int32 → Sx → Prop} (k0 : Nat) (x1 : Int32) (h : w_X7_read N k0 x1 s post) : Met l yX7_read (Cond.code yX7_read cX7_read 2 (some .int) :: gw) { frames := 1, cells := 0, slots := 0, locals := 22 } (va_Pc [.ref (adr G a 0 (42 + k0)), .int x1] (fun U => FU G a s U)) (Qi G a post) 0 0 (bs_ G) := met_of (plainFor_of_name (by decide)) (Nat.le_of_ble_eq_true rfl) rfl (fun X hC hl hR hQ hr hG hn => by subst hG; exact b_X7_read hC hR hQ hr hn s k0 x1 h)
theorem ca_X7_read : Ca yX7_read cX7_read 2 (some .int) 1 := ⟨cd_X7_read, ii_RX7, by decide, by decide, by decide +kernel⟩
def w_X3_code (N : Nat) (p0 : Nat) (s : Sx) (post : Int32 → Sx → Prop) : Prop := p0 < s.2.2 6 ∧ ∃ k_2, k_2 < 4 ∧ s.1 4 p0 0 = nI (k_2 + 1) ∧ p0 < s.2.2 6 ∧ p0 < s.2.2 6 ∧ w_X7_read N k_2 ((s.1 4 p0 1) + (s.1 4 p0 4)) s (fun r_7 s_6 => post r_7 s_6)
set_option maxHeartbeats 4000000 in
theorem b_X3_code {X : Kx} {a : Ax} {N : Nat} {post : Int32 → Sx → Prop} (hC : Cx X cX3_code 1 RX3) (hR : X.R = { frames := 2, cells := 0, slots := 0, locals := 43 }) (hQ : X.Q = MQ X.below (Qi X.G a post) X.av X.s 0 0 (bs_ X.G)) (hr : X.meth.sig.returnType = (some .int)) (hn : X.meth.name = "code") (s : Sx) (p0 : Nat) (h : w_X3_code N p0 s post) : wk X a s 1 0 [(0, .ref (adr X.G a 4 p0))] [] 0 0 := by
  unfold w_X3_code at h
  refine k_aload_n hC (pc := 0) dX3_code_0 0 rfl ?_
  obtain ⟨c_1, h⟩ := h
  obtain ⟨k_2, hk_2, e_3, h⟩ := h
  refine gf_X3_0 hC (pc := 1) c_1 hk_2 e_3 fl_RX3_15 dX3_code_1 ?_
  refine k_aload_n hC (pc := 4) dX3_code_4 0 rfl ?_
  obtain ⟨c_4, h⟩ := h
  refine gf_X3_1 hC (pc := 5) c_4 fl_RX3_19 dX3_code_5 ?_
  refine k_aload_n hC (pc := 8) dX3_code_8 0 rfl ?_
  obtain ⟨c_5, h⟩ := h
  refine gf_X3_4 hC (pc := 9) c_5 fl_RX3_51 dX3_code_9 ?_
  refine k_iadd hC (pc := 12) dX3_code_12 ?_
  refine k_ci (rn_V hC (pc := 13) (As := [.int ((s.1 4 p0 1) + (s.1 4 p0 4))]) (rest := []) ca_X7_read ml_RX3_72 im_X7_read se_X7_read (fx_in (sh_f hk_2)) (sh_o hk_2 _ _ _ _ _) rfl rfl (ct_X7_read k_2 ((s.1 4 p0 1) + (s.1 4 p0 4)) h) (by rw [hR]; exact ⟨rfl, rfl, by decide, by decide⟩) rfl (Nat.le_of_ble_eq_true rfl) dX3_code_13 ⟨by rw [hR]; decide, by rw [hR]; decide⟩) (fun r_7 s_6 h => ?_)
  exact k_iret hC (pc := 16) hQ hr dX3_code_16 h
theorem ct_X3_code {l : Launch} {G : Gx} {a : Ax} {s : Sx} {N : Nat} {post : Int32 → Sx → Prop} (p0 : Nat) (h : w_X3_code N p0 s post) : Met l yX3_code (Cond.code yX3_code cX3_code 1 (some .int) :: gw) { frames := 2, cells := 0, slots := 0, locals := 43 } (va_Pc [.ref (adr G a 4 p0)] (fun U => FU G a s U)) (Qi G a post) 0 0 (bs_ G) := met_of (plainFor_of_name (by decide)) (Nat.le_of_ble_eq_true rfl) rfl (fun X hC hl hR hQ hr hG hn => by subst hG; exact b_X3_code hC hR hQ hr hn s p0 h)
theorem ca_X3_code : Ca yX3_code cX3_code 1 (some .int) 0 := ⟨cd_X3_code, ii_RX3, by decide, by decide, by decide +kernel⟩
def w_X3_readSign_40 (N : Nat) (p0 : Nat) (post : Sx → Prop) (s : Sx) : Prop := p0 < s.2.2 6 ∧ p0 < s.2.2 6 ∧ ∀ s_9, s_9 = setI s 4 p0 5 (s.1 4 p0 4) → post s_9
def w_X3_readSign (N : Nat) (p0 : Nat) (x1 : Int32) (s : Sx) (post : Sx → Prop) : Prop := p0 < s.2.2 6 ∧ w_X3_isFaulty N p0 s (fun r_2 s_1 => (r_2 = 0 → p0 < s_1.2.2 6 ∧ p0 < s_1.2.2 6 ∧ ((s_1.1 4 p0 2) ≤ (s_1.1 4 p0 4) → w_X3_readSign_40 N p0 post s_1) ∧ (¬ ((s_1.1 4 p0 2) ≤ (s_1.1 4 p0 4)) → p0 < s_1.2.2 6 ∧ w_X3_code N p0 s_1 (fun r_11 s_10 => (¬ r_11 = x1 → w_X3_readSign_40 N p0 post s_10) ∧ (¬ (¬ r_11 = x1) → p0 < s_10.2.2 6 ∧ p0 < s_10.2.2 6 ∧ ∀ s_15, s_15 = setI s_10 4 p0 4 ((s_10.1 4 p0 4) + 1) → post s_15)))) ∧ (¬ (r_2 = 0) → post s_1))
set_option maxHeartbeats 4000000 in
theorem b_X3_readSign_40 {X : Kx} {a : Ax} {N : Nat} {p0 : Nat} {post : Sx → Prop}  (hC : Cx X cX3_readSign 2 RX3) (hR : X.R = { frames := 3, cells := 0, slots := 0, locals := 63 }) (hQ : X.Q = MQ X.below (Qv X.G a post) X.av X.s 0 0 (bs_ X.G)) (hr : X.meth.sig.returnType = none)   (s : Sx)  (h : w_X3_readSign_40 N p0 post  s ) : wk X a s 2 40 [(0, .ref (adr X.G a 4 p0))] [] 0 0 := by
  unfold w_X3_readSign_40 at h
  refine k_aload_n hC (pc := 40) dX3_readSign_40 0 rfl ?_
  refine k_aload_n hC (pc := 41) dX3_readSign_41 0 rfl ?_
  obtain ⟨c_7, h⟩ := h
  refine gf_X3_4 hC (pc := 42) c_7 fl_RX3_51 dX3_readSign_42 ?_
  obtain ⟨c_8, h⟩ := h
  refine pf_X3_5 hC (pc := 45) c_8 fl_RX3_11 dX3_readSign_45 (fun s_9 h_s_9 => ?_)
  have h := h s_9 h_s_9
  exact k_vret hC (pc := 48) hQ hr dX3_readSign_48 h
set_option maxHeartbeats 4000000 in
theorem b_X3_readSign {X : Kx} {a : Ax} {N : Nat} {post : Sx → Prop} (hC : Cx X cX3_readSign 2 RX3) (hR : X.R = { frames := 3, cells := 0, slots := 0, locals := 63 }) (hQ : X.Q = MQ X.below (Qv X.G a post) X.av X.s 0 0 (bs_ X.G)) (hr : X.meth.sig.returnType = none) (hn : X.meth.name = "readSign") (s : Sx) (p0 : Nat) (x1 : Int32) (h : w_X3_readSign N p0 x1 s post) : wk X a s 2 0 [(0, .ref (adr X.G a 4 p0)), (1, .int x1)] [] 0 0 := by
  unfold w_X3_readSign at h
  refine k_aload_n hC (pc := 0) dX3_readSign_0 0 rfl ?_
  refine k_ci (rn_V hC (pc := 1) (As := []) (rest := []) ca_X3_isFaulty ml_RX3_57 im_X3_isFaulty se_X3_isFaulty (rx_in h.1) (ob4 _ _ _ _ _ _) rfl rfl (ct_X3_isFaulty p0 h.2) (by rw [hR]; exact ⟨rfl, rfl, by decide, by decide⟩) rfl (Nat.le_of_ble_eq_true rfl) dX3_readSign_1 ⟨by rw [hR]; decide, by rw [hR]; decide⟩) (fun r_2 s_1 h => ?_)
  refine k_if_eq hC (pc := 4) 8 dX3_readSign_4 (by decide) (fun c_3 => ?_) (fun c_3 => ?_)
  · have h := h.1 c_3
    refine k_aload_n hC (pc := 8) dX3_readSign_8 0 rfl ?_
    obtain ⟨c_4, h⟩ := h
    refine gf_X3_4 hC (pc := 9) c_4 fl_RX3_51 dX3_readSign_9 ?_
    refine k_aload_n hC (pc := 12) dX3_readSign_12 0 rfl ?_
    obtain ⟨c_5, h⟩ := h
    refine gf_X3_2 hC (pc := 13) c_5 fl_RX3_22 dX3_readSign_13 ?_
    refine k_icmp_ge hC (pc := 16) 40 dX3_readSign_16 (by decide) (fun c_6 => ?_) (fun c_6 => ?_)
    · have h := h.1 c_6
      refine k_sub [(0, .ref (adr X.G a 4 p0))] [0] rfl ?_
      exact b_X3_readSign_40 hC hR hQ hr _ h
    · have h := h.2 c_6
      refine k_aload_n hC (pc := 19) dX3_readSign_19 0 rfl ?_
      refine k_ci (rn_V hC (pc := 20) (As := []) (rest := []) ca_X3_code ml_RX3_64 im_X3_code se_X3_code (rx_in h.1) (ob4 _ _ _ _ _ _) rfl rfl (ct_X3_code p0 h.2) (by rw [hR]; exact ⟨rfl, rfl, by decide, by decide⟩) rfl (Nat.le_of_ble_eq_true rfl) dX3_readSign_20 ⟨by rw [hR]; decide, by rw [hR]; decide⟩) (fun r_11 s_10 h => ?_)
      refine k_iload_n hC (pc := 23) dX3_readSign_23 1 rfl ?_
      refine k_icmp_ne hC (pc := 24) 40 dX3_readSign_24 (by decide) (fun c_12 => ?_) (fun c_12 => ?_)
      · have h := h.1 c_12
        refine k_sub [(0, .ref (adr X.G a 4 p0))] [0] rfl ?_
        exact b_X3_readSign_40 hC hR hQ hr _ h
      · have h := h.2 c_12
        refine k_aload_n hC (pc := 27) dX3_readSign_27 0 rfl ?_
        refine k_dup hC (pc := 28) dX3_readSign_28 rfl ?_
        obtain ⟨c_13, h⟩ := h
        refine gf_X3_4 hC (pc := 29) c_13 fl_RX3_51 dX3_readSign_29 ?_
        refine k_iconst hC (pc := 32) (v := 1) dX3_readSign_32 ic_1 ?_
        refine k_iadd hC (pc := 33) dX3_readSign_33 ?_
        obtain ⟨c_14, h⟩ := h
        refine pf_X3_4 hC (pc := 34) c_14 fl_RX3_51 dX3_readSign_34 (fun s_15 h_s_15 => ?_)
        have h := h s_15 h_s_15
        refine k_goto hC (pc := 37) 48 dX3_readSign_37 (by decide) ?_
        exact k_vret hC (pc := 48) hQ hr dX3_readSign_48 h
  · have h := h.2 c_3
    exact k_vret hC (pc := 7) hQ hr dX3_readSign_7 h
theorem ct_X3_readSign {l : Launch} {G : Gx} {a : Ax} {s : Sx} {N : Nat} {post : Sx → Prop} (p0 : Nat) (x1 : Int32) (h : w_X3_readSign N p0 x1 s post) : Met l yX3_readSign (Cond.code yX3_readSign cX3_readSign 2 none :: gw) { frames := 3, cells := 0, slots := 0, locals := 63 } (va_Pc [.ref (adr G a 4 p0), .int x1] (fun U => FU G a s U)) (Qv G a post) 0 0 (bs_ G) := met_of (plainFor_of_name (by decide)) (Nat.le_of_ble_eq_true rfl) rfl (fun X hC hl hR hQ hr hG hn => by subst hG; exact b_X3_readSign hC hR hQ hr hn s p0 x1 h)
theorem ca_X3_readSign : Ca yX3_readSign cX3_readSign 2 none 1 := ⟨cd_X3_readSign, ii_RX3, by decide, by decide, by decide +kernel⟩
def w_X3_readNumber_101 (N : Nat) (p0 : Nat) (post : Int32 → Sx → Prop) (s : Sx) (x4 : Int32) (x5 : Int32) : Prop := p0 < s.2.2 6 ∧ ∀ s_12, s_12 = setI s 4 p0 5 x4 → post x5 s_12
def w_X3_readNumber_82 (N : Nat) (p0 : Nat) (post : Int32 → Sx → Prop) (s : Sx) (x2 : Int32) (x3 : Int32) (x4 : Int32) (x5 : Int32) : Prop := p0 < s.2.2 6 ∧ ((s.1 4 p0 4) = x4 → w_X3_readNumber_101 N p0 post s x4 x5) ∧ (¬ ((s.1 4 p0 4) = x4) → w_X11_isWithin N x5 x2 x3 s (fun r_14 s_13 => (¬ r_14 = 0 → post x5 s_13) ∧ (¬ (¬ r_14 = 0) → w_X3_readNumber_101 N p0 post s_13 x4 x5)))
def w_X3_readNumber_18 (N : Nat) (p0 : Nat) (post : Int32 → Sx → Prop) : Nat → Sx → Int32 → Int32 → Int32 → Int32 → Int32 → Prop
  | 0, _, _, _, _, _, _ => False
  | n + 1, s, x1, x2, x3, x4, x5 => p0 < s.2.2 6 ∧ p0 < s.2.2 6 ∧ ((s.1 4 p0 2) ≤ (s.1 4 p0 4) → w_X3_readNumber_82 N p0 post s x2 x3 x4 x5) ∧ (¬ ((s.1 4 p0 2) ≤ (s.1 4 p0 4)) → p0 < s.2.2 6 ∧ (x1 ≤ ((s.1 4 p0 4) - x4) → w_X3_readNumber_82 N p0 post s x2 x3 x4 x5) ∧ (¬ (x1 ≤ ((s.1 4 p0 4) - x4)) → p0 < s.2.2 6 ∧ w_X3_code N p0 s (fun r_19 s_18 => w_X11_isWithin N r_19 48 57 s_18 (fun r_21 s_20 => (r_21 = 0 → w_X3_readNumber_82 N p0 post s_20 x2 x3 x4 x5) ∧ (¬ (r_21 = 0) → p0 < s_20.2.2 6 ∧ w_X3_code N p0 s_20 (fun r_24 s_23 => ∀ x_25 : Int32, x_25 = ((10 * x5) + r_24) - 48 → p0 < s_23.2.2 6 ∧ p0 < s_23.2.2 6 ∧ ∀ s_28, s_28 = setI s_23 4 p0 4 ((s_23.1 4 p0 4) + 1) → w_X3_readNumber_18 N p0 post n s_28 x1 x2 x3 x4 x_25))))))
def w_X3_readNumber (N : Nat) (p0 : Nat) (x1 : Int32) (x2 : Int32) (x3 : Int32) (s : Sx) (post : Int32 → Sx → Prop) : Prop := p0 < s.2.2 6 ∧ w_X3_isFaulty N p0 s (fun r_2 s_1 => (r_2 = 0 → p0 < s_1.2.2 6 ∧ ∀ x_5 : Int32, x_5 = s_1.1 4 p0 4 → w_X3_readNumber_18 N p0 post N s_1 x1 x2 x3 x_5 0) ∧ (¬ (r_2 = 0) → post 0 s_1))
set_option maxHeartbeats 4000000 in
theorem b_X3_readNumber_101 {X : Kx} {a : Ax} {N : Nat} {p0 : Nat} {post : Int32 → Sx → Prop}  (hC : Cx X cX3_readNumber 6 RX3) (hR : X.R = { frames := 3, cells := 0, slots := 0, locals := 63 }) (hQ : X.Q = MQ X.below (Qi X.G a post) X.av X.s 0 0 (bs_ X.G)) (hr : X.meth.sig.returnType = (some .int))   (s : Sx) (x4 : Int32) (x5 : Int32) (h : w_X3_readNumber_101 N p0 post  s x4 x5) : wk X a s 6 101 [(0, .ref (adr X.G a 4 p0)), (4, .int x4), (5, .int x5)] [] 0 0 := by
  unfold w_X3_readNumber_101 at h
  refine k_aload_n hC (pc := 101) dX3_readNumber_101 0 rfl ?_
  refine k_iload hC (pc := 102) dX3_readNumber_102 1 rfl ?_
  obtain ⟨c_11, h⟩ := h
  refine pf_X3_5 hC (pc := 104) c_11 fl_RX3_11 dX3_readNumber_104 (fun s_12 h_s_12 => ?_)
  have h := h s_12 h_s_12
  refine k_iload hC (pc := 107) dX3_readNumber_107 2 rfl ?_
  exact k_iret hC (pc := 109) hQ hr dX3_readNumber_109 h
set_option maxHeartbeats 4000000 in
theorem b_X3_readNumber_82 {X : Kx} {a : Ax} {N : Nat} {p0 : Nat} {post : Int32 → Sx → Prop}  (hC : Cx X cX3_readNumber 6 RX3) (hR : X.R = { frames := 3, cells := 0, slots := 0, locals := 63 }) (hQ : X.Q = MQ X.below (Qi X.G a post) X.av X.s 0 0 (bs_ X.G)) (hr : X.meth.sig.returnType = (some .int))   (s : Sx) (x2 : Int32) (x3 : Int32) (x4 : Int32) (x5 : Int32) (h : w_X3_readNumber_82 N p0 post  s x2 x3 x4 x5) : wk X a s 6 82 [(0, .ref (adr X.G a 4 p0)), (2, .int x2), (3, .int x3), (4, .int x4), (5, .int x5)] [] 0 0 := by
  unfold w_X3_readNumber_82 at h
  refine k_aload_n hC (pc := 82) dX3_readNumber_82 0 rfl ?_
  obtain ⟨c_9, h⟩ := h
  refine gf_X3_4 hC (pc := 83) c_9 fl_RX3_51 dX3_readNumber_83 ?_
  refine k_iload hC (pc := 86) dX3_readNumber_86 3 rfl ?_
  refine k_icmp_eq hC (pc := 88) 101 dX3_readNumber_88 (by decide) (fun c_10 => ?_) (fun c_10 => ?_)
  · have h := h.1 c_10
    refine k_sub [(0, .ref (adr X.G a 4 p0)), (4, .int x4), (5, .int x5)] [0, 3, 4] rfl ?_
    exact b_X3_readNumber_101 hC hR hQ hr _ _ _ h
  · have h := h.2 c_10
    refine k_iload hC (pc := 91) dX3_readNumber_91 4 rfl ?_
    refine k_iload_n hC (pc := 93) dX3_readNumber_93 1 rfl ?_
    refine k_iload_n hC (pc := 94) dX3_readNumber_94 2 rfl ?_
    refine k_ci (rn_SN hC (pc := 95) (As := [.int x5, .int x2, .int x3]) (rest := []) ca_X11_isWithin nl_RX3_68 sm_X11_isWithin (ct_X11_isWithin x5 x2 x3 h) (by rw [hR]; exact ⟨rfl, rfl, by decide, by decide⟩) rfl (Nat.le_of_ble_eq_true rfl) dX3_readNumber_95 ⟨by rw [hR]; decide, by rw [hR]; decide⟩) (fun r_14 s_13 h => ?_)
    refine k_if_ne hC (pc := 98) 107 dX3_readNumber_98 (by decide) (fun c_15 => ?_) (fun c_15 => ?_)
    · have h := h.1 c_15
      refine k_iload hC (pc := 107) dX3_readNumber_107 4 rfl ?_
      exact k_iret hC (pc := 109) hQ hr dX3_readNumber_109 h
    · have h := h.2 c_15
      refine k_sub [(0, .ref (adr X.G a 4 p0)), (4, .int x4), (5, .int x5)] [0, 3, 4] rfl ?_
      exact b_X3_readNumber_101 hC hR hQ hr _ _ _ h
set_option maxHeartbeats 4000000 in
theorem b_X3_readNumber_18 {X : Kx} {a : Ax} {N : Nat} {p0 : Nat} {post : Int32 → Sx → Prop}  (hC : Cx X cX3_readNumber 6 RX3) (hR : X.R = { frames := 3, cells := 0, slots := 0, locals := 63 }) (hQ : X.Q = MQ X.below (Qi X.G a post) X.av X.s 0 0 (bs_ X.G)) (hr : X.meth.sig.returnType = (some .int))   : ∀ (n : Nat) (s : Sx) (x1 : Int32) (x2 : Int32) (x3 : Int32) (x4 : Int32) (x5 : Int32), w_X3_readNumber_18 N p0 post  n s x1 x2 x3 x4 x5 → wk X a s 6 18 [(0, .ref (adr X.G a 4 p0)), (1, .int x1), (2, .int x2), (3, .int x3), (4, .int x4), (5, .int x5)] [] 0 0 := by
  intro n
  induction n with
  | zero => intro s x1 x2 x3 x4 x5 h; exact h.elim
  | succ n ih =>
    intro s x1 x2 x3 x4 x5 h
    unfold w_X3_readNumber_18 at h
    refine k_aload_n hC (pc := 18) dX3_readNumber_18 0 rfl ?_
    obtain ⟨c_6, h⟩ := h
    refine gf_X3_4 hC (pc := 19) c_6 fl_RX3_51 dX3_readNumber_19 ?_
    refine k_aload_n hC (pc := 22) dX3_readNumber_22 0 rfl ?_
    obtain ⟨c_7, h⟩ := h
    refine gf_X3_2 hC (pc := 23) c_7 fl_RX3_22 dX3_readNumber_23 ?_
    refine k_icmp_ge hC (pc := 26) 82 dX3_readNumber_26 (by decide) (fun c_8 => ?_) (fun c_8 => ?_)
    · have h := h.1 c_8
      refine k_sub [(0, .ref (adr X.G a 4 p0)), (2, .int x2), (3, .int x3), (4, .int x4), (5, .int x5)] [0, 2, 3, 4, 5] rfl ?_
      exact b_X3_readNumber_82 hC hR hQ hr _ _ _ _ _ h
    · have h := h.2 c_8
      refine k_aload_n hC (pc := 29) dX3_readNumber_29 0 rfl ?_
      obtain ⟨c_16, h⟩ := h
      refine gf_X3_4 hC (pc := 30) c_16 fl_RX3_51 dX3_readNumber_30 ?_
      refine k_iload hC (pc := 33) dX3_readNumber_33 4 rfl ?_
      refine k_isub hC (pc := 35) dX3_readNumber_35 ?_
      refine k_iload_n hC (pc := 36) dX3_readNumber_36 1 rfl ?_
      refine k_icmp_ge hC (pc := 37) 82 dX3_readNumber_37 (by decide) (fun c_17 => ?_) (fun c_17 => ?_)
      · have h := h.1 c_17
        refine k_sub [(0, .ref (adr X.G a 4 p0)), (2, .int x2), (3, .int x3), (4, .int x4), (5, .int x5)] [0, 2, 3, 4, 5] rfl ?_
        exact b_X3_readNumber_82 hC hR hQ hr _ _ _ _ _ h
      · have h := h.2 c_17
        refine k_aload_n hC (pc := 40) dX3_readNumber_40 0 rfl ?_
        refine k_ci (rn_V hC (pc := 41) (As := []) (rest := []) ca_X3_code ml_RX3_64 im_X3_code se_X3_code (rx_in h.1) (ob4 _ _ _ _ _ _) rfl rfl (ct_X3_code p0 h.2) (by rw [hR]; exact ⟨rfl, rfl, by decide, by decide⟩) rfl (Nat.le_of_ble_eq_true rfl) dX3_readNumber_41 ⟨by rw [hR]; decide, by rw [hR]; decide⟩) (fun r_19 s_18 h => ?_)
        refine k_bipush hC (pc := 44) (v := 48) dX3_readNumber_44 bp_48 ?_
        refine k_bipush hC (pc := 46) (v := 57) dX3_readNumber_46 bp_57 ?_
        refine k_ci (rn_SN hC (pc := 48) (As := [.int r_19, .int 48, .int 57]) (rest := []) ca_X11_isWithin nl_RX3_68 sm_X11_isWithin (ct_X11_isWithin r_19 48 57 h) (by rw [hR]; exact ⟨rfl, rfl, by decide, by decide⟩) rfl (Nat.le_of_ble_eq_true rfl) dX3_readNumber_48 ⟨by rw [hR]; decide, by rw [hR]; decide⟩) (fun r_21 s_20 h => ?_)
        refine k_if_eq hC (pc := 51) 82 dX3_readNumber_51 (by decide) (fun c_22 => ?_) (fun c_22 => ?_)
        · have h := h.1 c_22
          refine k_sub [(0, .ref (adr X.G a 4 p0)), (2, .int x2), (3, .int x3), (4, .int x4), (5, .int x5)] [0, 2, 3, 4, 5] rfl ?_
          exact b_X3_readNumber_82 hC hR hQ hr _ _ _ _ _ h
        · have h := h.2 c_22
          refine k_bipush hC (pc := 54) (v := 10) dX3_readNumber_54 bp_10 ?_
          refine k_iload hC (pc := 56) dX3_readNumber_56 5 rfl ?_
          refine k_imul hC (pc := 58) dX3_readNumber_58 ?_
          refine k_aload_n hC (pc := 59) dX3_readNumber_59 0 rfl ?_
          refine k_ci (rn_V hC (pc := 60) (As := []) (rest := [.int (10 * x5)]) ca_X3_code ml_RX3_64 im_X3_code se_X3_code (rx_in h.1) (ob4 _ _ _ _ _ _) rfl rfl (ct_X3_code p0 h.2) (by rw [hR]; exact ⟨rfl, rfl, by decide, by decide⟩) rfl (Nat.le_of_ble_eq_true rfl) dX3_readNumber_60 ⟨by rw [hR]; decide, by rw [hR]; decide⟩) (fun r_24 s_23 h => ?_)
          refine k_iadd hC (pc := 63) dX3_readNumber_63 ?_
          refine k_bipush hC (pc := 64) (v := 48) dX3_readNumber_64 bp_48 ?_
          refine k_isub hC (pc := 66) dX3_readNumber_66 ?_
          refine k_topi (fun x_25 h_x_25 => ?_)
          have h := h x_25 h_x_25
          refine k_istore hC (pc := 67) dX3_readNumber_67 [(5, .int x_25), (0, .ref (adr X.G a 4 p0)), (1, .int x1), (2, .int x2), (3, .int x3), (4, .int x4)] (by decide) rfl ?_
          refine k_aload_n hC (pc := 69) dX3_readNumber_69 1 rfl ?_
          refine k_dup hC (pc := 70) dX3_readNumber_70 rfl ?_
          obtain ⟨c_26, h⟩ := h
          refine gf_X3_4 hC (pc := 71) c_26 fl_RX3_51 dX3_readNumber_71 ?_
          refine k_iconst hC (pc := 74) (v := 1) dX3_readNumber_74 ic_1 ?_
          refine k_iadd hC (pc := 75) dX3_readNumber_75 ?_
          obtain ⟨c_27, h⟩ := h
          refine pf_X3_4 hC (pc := 76) c_27 fl_RX3_51 dX3_readNumber_76 (fun s_28 h_s_28 => ?_)
          have h := h s_28 h_s_28
          refine k_goto hC (pc := 79) 18 dX3_readNumber_79 (by decide) ?_
          refine k_sub [(0, .ref (adr X.G a 4 p0)), (1, .int x1), (2, .int x2), (3, .int x3), (4, .int x4), (5, .int x_25)] [1, 2, 3, 4, 5, 0] rfl ?_
          exact ih _ _ _ _ _ _ h
set_option maxHeartbeats 4000000 in
theorem b_X3_readNumber {X : Kx} {a : Ax} {N : Nat} {post : Int32 → Sx → Prop} (hC : Cx X cX3_readNumber 6 RX3) (hR : X.R = { frames := 3, cells := 0, slots := 0, locals := 63 }) (hQ : X.Q = MQ X.below (Qi X.G a post) X.av X.s 0 0 (bs_ X.G)) (hr : X.meth.sig.returnType = (some .int)) (hn : X.meth.name = "readNumber") (s : Sx) (p0 : Nat) (x1 : Int32) (x2 : Int32) (x3 : Int32) (h : w_X3_readNumber N p0 x1 x2 x3 s post) : wk X a s 6 0 [(0, .ref (adr X.G a 4 p0)), (1, .int x1), (2, .int x2), (3, .int x3)] [] 0 0 := by
  unfold w_X3_readNumber at h
  refine k_aload_n hC (pc := 0) dX3_readNumber_0 0 rfl ?_
  refine k_ci (rn_V hC (pc := 1) (As := []) (rest := []) ca_X3_isFaulty ml_RX3_57 im_X3_isFaulty se_X3_isFaulty (rx_in h.1) (ob4 _ _ _ _ _ _) rfl rfl (ct_X3_isFaulty p0 h.2) (by rw [hR]; exact ⟨rfl, rfl, by decide, by decide⟩) rfl (Nat.le_of_ble_eq_true rfl) dX3_readNumber_1 ⟨by rw [hR]; decide, by rw [hR]; decide⟩) (fun r_2 s_1 h => ?_)
  refine k_if_eq hC (pc := 4) 9 dX3_readNumber_4 (by decide) (fun c_3 => ?_) (fun c_3 => ?_)
  · have h := h.1 c_3
    refine k_aload_n hC (pc := 9) dX3_readNumber_9 0 rfl ?_
    obtain ⟨c_4, h⟩ := h
    refine gf_X3_4 hC (pc := 10) c_4 fl_RX3_51 dX3_readNumber_10 ?_
    refine k_topi (fun x_5 h_x_5 => ?_)
    have h := h x_5 h_x_5
    refine k_istore hC (pc := 13) dX3_readNumber_13 [(4, .int x_5), (0, .ref (adr X.G a 4 p0)), (1, .int x1), (2, .int x2), (3, .int x3)] (by decide) rfl ?_
    refine k_iconst hC (pc := 15) (v := 0) dX3_readNumber_15 ic_0 ?_
    refine k_istore hC (pc := 16) dX3_readNumber_16 [(5, .int 0), (4, .int x_5), (0, .ref (adr X.G a 4 p0)), (1, .int x1), (2, .int x2), (3, .int x3)] (by decide) rfl ?_
    refine k_sub [(0, .ref (adr X.G a 4 p0)), (1, .int x1), (2, .int x2), (3, .int x3), (4, .int x_5), (5, .int 0)] [2, 3, 4, 5, 1, 0] rfl ?_
    exact b_X3_readNumber_18 hC hR hQ hr N _ _ _ _ _ _ h
  · have h := h.2 c_3
    refine k_iconst hC (pc := 7) (v := 0) dX3_readNumber_7 ic_0 ?_
    exact k_iret hC (pc := 8) hQ hr dX3_readNumber_8 h
theorem ct_X3_readNumber {l : Launch} {G : Gx} {a : Ax} {s : Sx} {N : Nat} {post : Int32 → Sx → Prop} (p0 : Nat) (x1 : Int32) (x2 : Int32) (x3 : Int32) (h : w_X3_readNumber N p0 x1 x2 x3 s post) : Met l yX3_readNumber (Cond.code yX3_readNumber cX3_readNumber 6 (some .int) :: gw) { frames := 3, cells := 0, slots := 0, locals := 63 } (va_Pc [.ref (adr G a 4 p0), .int x1, .int x2, .int x3] (fun U => FU G a s U)) (Qi G a post) 0 0 (bs_ G) := met_of (plainFor_of_name (by decide)) (Nat.le_of_ble_eq_true rfl) rfl (fun X hC hl hR hQ hr hG hn => by subst hG; exact b_X3_readNumber hC hR hQ hr hn s p0 x1 x2 x3 h)
theorem ca_X3_readNumber : Ca yX3_readNumber cX3_readNumber 6 (some .int) 3 := ⟨cd_X3_readNumber, ii_RX3, by decide, by decide, by decide +kernel⟩
def w_X3_readLeftOut_77 (N : Nat) (p0 : Nat) (post : Sx → Prop) (K8 : Sx → Int32 → Prop) (s : Sx) (x1 : Int32) (x3 : Int32) : Prop := p0 < s.2.2 6 ∧ p0 < s.2.2 6 ∧ ∀ s_17, s_17 = setI s 4 p0 11 ((s.1 4 p0 11) ||| (1 <<< (x3 &&& 31))) → ∀ x_18 : Int32, x_18 = x1 + 1 → K8 s_17 x_18
def w_X3_readLeftOut_36 (N : Nat) (p0 : Nat) (post : Sx → Prop) (K8 : Sx → Int32 → Prop) (s : Sx) (x1 : Int32) : Prop := p0 < s.2.2 6 ∧ ∀ x_8 : Int32, x_8 = s.1 4 p0 4 → p0 < s.2.2 6 ∧ p0 < s.2.2 6 ∧ w_X3_readNumber N p0 1 0 ((s.1 4 p0 3) - 1) s (fun r_11 s_10 => p0 < s_10.2.2 6 ∧ w_X3_isFaulty N p0 s_10 (fun r_13 s_12 => (¬ r_13 = 0 → w_X3_readLeftOut_77 N p0 post K8 s_12 x1 r_11) ∧ (¬ (¬ r_13 = 0) → p0 < s_12.2.2 6 ∧ ((((s_12.1 4 p0 11) >>> (r_11 &&& 31)) &&& 1) = 0 → w_X3_readLeftOut_77 N p0 post K8 s_12 x1 r_11) ∧ (¬ ((((s_12.1 4 p0 11) >>> (r_11 &&& 31)) &&& 1) = 0) → p0 < s_12.2.2 6 ∧ ∀ s_22, s_22 = setI s_12 4 p0 5 x_8 → w_X3_readLeftOut_77 N p0 post K8 s_22 x1 r_11))))
def w_X3_readLeftOut_8 (N : Nat) (p0 : Nat) (post : Sx → Prop) : Nat → Sx → Int32 → Prop
  | 0, _, _ => False
  | n + 1, s, x1 => (7 < x1 → post s) ∧ (¬ (7 < x1) → p0 < s.2.2 6 ∧ w_X3_isFaulty N p0 s (fun r_4 s_3 => (¬ r_4 = 0 → post s_3) ∧ (¬ (¬ r_4 = 0) → (x1 = 0 → w_X3_readLeftOut_36 N p0 post (w_X3_readLeftOut_8 N p0 post n) s_3 x1) ∧ (¬ (x1 = 0) → p0 < s_3.2.2 6 ∧ p0 < s_3.2.2 6 ∧ ((s_3.1 4 p0 2) ≤ (s_3.1 4 p0 4) → post s_3) ∧ (¬ ((s_3.1 4 p0 2) ≤ (s_3.1 4 p0 4)) → w_X3_readLeftOut_36 N p0 post (w_X3_readLeftOut_8 N p0 post n) s_3 x1)))))
def w_X3_readLeftOut (N : Nat) (p0 : Nat) (s : Sx) (post : Sx → Prop) : Prop := p0 < s.2.2 6 ∧ w_X3_readSign N p0 33 s (fun s_1 => w_X3_readLeftOut_8 N p0 post N s_1 0)
set_option maxHeartbeats 4000000 in
theorem b_X3_readLeftOut_77 {X : Kx} {a : Ax} {N : Nat} {p0 : Nat} {post : Sx → Prop} {K8 : Sx → Int32 → Prop}  (hC : Cx X cX3_readLeftOut 4 RX3) (hR : X.R = { frames := 4, cells := 0, slots := 0, locals := 88 }) (hQ : X.Q = MQ X.below (Qv X.G a post) X.av X.s 0 0 (bs_ X.G)) (hr : X.meth.sig.returnType = none)  (hK8 : ∀ (s : Sx) (x1 : Int32), K8 s x1 → wk X a s 4 8 [(0, .ref (adr X.G a 4 p0)), (1, .int x1)] [] 0 0) (s : Sx) (x1 : Int32) (x3 : Int32) (h : w_X3_readLeftOut_77 N p0 post K8 s x1 x3) : wk X a s 4 77 [(0, .ref (adr X.G a 4 p0)), (1, .int x1), (3, .int x3)] [] 0 0 := by
  unfold w_X3_readLeftOut_77 at h
  refine k_aload_n hC (pc := 77) dX3_readLeftOut_77 0 rfl ?_
  refine k_dup hC (pc := 78) dX3_readLeftOut_78 rfl ?_
  obtain ⟨c_15, h⟩ := h
  refine gf_X3_11 hC (pc := 79) c_15 fl_RX3_61 dX3_readLeftOut_79 ?_
  refine k_iconst hC (pc := 82) (v := 1) dX3_readLeftOut_82 ic_1 ?_
  refine k_iload_n hC (pc := 83) dX3_readLeftOut_83 2 rfl ?_
  refine k_ishl hC (pc := 84) dX3_readLeftOut_84 ?_
  refine k_ior hC (pc := 85) dX3_readLeftOut_85 ?_
  obtain ⟨c_16, h⟩ := h
  refine pf_X3_11 hC (pc := 86) c_16 fl_RX3_61 dX3_readLeftOut_86 (fun s_17 h_s_17 => ?_)
  have h := h s_17 h_s_17
  obtain ⟨x_18, h_x_18⟩ : ∃ z : Int32, z = x1 + 1 := ⟨_, rfl⟩
  have h := h x_18 h_x_18
  refine k_iincw hC (pc := 89) dX3_readLeftOut_89 1 rfl ic_1 h_x_18.symm [(1, .int x_18), (0, .ref (adr X.G a 4 p0)), (3, .int x3)] (by decide) rfl ?_
  refine k_goto hC (pc := 92) 8 dX3_readLeftOut_92 (by decide) ?_
  refine k_sub [(0, .ref (adr X.G a 4 p0)), (1, .int x_18)] [1, 0] rfl ?_
  exact hK8 _ _ h
set_option maxHeartbeats 4000000 in
theorem b_X3_readLeftOut_36 {X : Kx} {a : Ax} {N : Nat} {p0 : Nat} {post : Sx → Prop} {K8 : Sx → Int32 → Prop}  (hC : Cx X cX3_readLeftOut 4 RX3) (hR : X.R = { frames := 4, cells := 0, slots := 0, locals := 88 }) (hQ : X.Q = MQ X.below (Qv X.G a post) X.av X.s 0 0 (bs_ X.G)) (hr : X.meth.sig.returnType = none)  (hK8 : ∀ (s : Sx) (x1 : Int32), K8 s x1 → wk X a s 4 8 [(0, .ref (adr X.G a 4 p0)), (1, .int x1)] [] 0 0) (s : Sx) (x1 : Int32) (h : w_X3_readLeftOut_36 N p0 post K8 s x1) : wk X a s 4 36 [(0, .ref (adr X.G a 4 p0)), (1, .int x1)] [] 0 0 := by
  unfold w_X3_readLeftOut_36 at h
  refine k_aload_n hC (pc := 36) dX3_readLeftOut_36 0 rfl ?_
  obtain ⟨c_7, h⟩ := h
  refine gf_X3_4 hC (pc := 37) c_7 fl_RX3_51 dX3_readLeftOut_37 ?_
  refine k_topi (fun x_8 h_x_8 => ?_)
  have h := h x_8 h_x_8
  refine k_istore_n hC (pc := 40) dX3_readLeftOut_40 [(2, .int x_8), (0, .ref (adr X.G a 4 p0)), (1, .int x1)] (by decide) rfl ?_
  refine k_aload_n hC (pc := 41) dX3_readLeftOut_41 1 rfl ?_
  refine k_iconst hC (pc := 42) (v := 1) dX3_readLeftOut_42 ic_1 ?_
  refine k_iconst hC (pc := 43) (v := 0) dX3_readLeftOut_43 ic_0 ?_
  refine k_aload_n hC (pc := 44) dX3_readLeftOut_44 1 rfl ?_
  obtain ⟨c_9, h⟩ := h
  refine gf_X3_3 hC (pc := 45) c_9 fl_RX3_25 dX3_readLeftOut_45 ?_
  refine k_iconst hC (pc := 48) (v := 1) dX3_readLeftOut_48 ic_1 ?_
  refine k_isub hC (pc := 49) dX3_readLeftOut_49 ?_
  refine k_ci (rn_V hC (pc := 50) (As := [.int 1, .int 0, .int ((s.1 4 p0 3) - 1)]) (rest := []) ca_X3_readNumber ml_RX3_32 im_X3_readNumber se_X3_readNumber (rx_in h.1) (ob4 _ _ _ _ _ _) rfl rfl (ct_X3_readNumber p0 1 0 ((s.1 4 p0 3) - 1) h.2) (by rw [hR]; exact ⟨rfl, rfl, by decide, by decide⟩) rfl (Nat.le_of_ble_eq_true rfl) dX3_readLeftOut_50 ⟨by rw [hR]; decide, by rw [hR]; decide⟩) (fun r_11 s_10 h => ?_)
  refine k_istore_n hC (pc := 53) dX3_readLeftOut_53 [(3, .int r_11), (2, .int x_8), (0, .ref (adr X.G a 4 p0)), (1, .int x1)] (by decide) rfl ?_
  refine k_aload_n hC (pc := 54) dX3_readLeftOut_54 2 rfl ?_
  refine k_ci (rn_V hC (pc := 55) (As := []) (rest := []) ca_X3_isFaulty ml_RX3_57 im_X3_isFaulty se_X3_isFaulty (rx_in h.1) (ob4 _ _ _ _ _ _) rfl rfl (ct_X3_isFaulty p0 h.2) (by rw [hR]; exact ⟨rfl, rfl, by decide, by decide⟩) rfl (Nat.le_of_ble_eq_true rfl) dX3_readLeftOut_55 ⟨by rw [hR]; decide, by rw [hR]; decide⟩) (fun r_13 s_12 h => ?_)
  refine k_if_ne hC (pc := 58) 77 dX3_readLeftOut_58 (by decide) (fun c_14 => ?_) (fun c_14 => ?_)
  · have h := h.1 c_14
    refine k_sub [(0, .ref (adr X.G a 4 p0)), (1, .int x1), (3, .int r_11)] [2, 3, 0] rfl ?_
    exact b_X3_readLeftOut_77 hC hR hQ hr hK8 _ _ _ h
  · have h := h.2 c_14
    refine k_aload_n hC (pc := 61) dX3_readLeftOut_61 2 rfl ?_
    obtain ⟨c_19, h⟩ := h
    refine gf_X3_11 hC (pc := 62) c_19 fl_RX3_61 dX3_readLeftOut_62 ?_
    refine k_iload_n hC (pc := 65) dX3_readLeftOut_65 0 rfl ?_
    refine k_ishr hC (pc := 66) dX3_readLeftOut_66 ?_
    refine k_iconst hC (pc := 67) (v := 1) dX3_readLeftOut_67 ic_1 ?_
    refine k_iand hC (pc := 68) dX3_readLeftOut_68 ?_
    refine k_if_eq hC (pc := 69) 77 dX3_readLeftOut_69 (by decide) (fun c_20 => ?_) (fun c_20 => ?_)
    · have h := h.1 c_20
      refine k_sub [(0, .ref (adr X.G a 4 p0)), (1, .int x1), (3, .int r_11)] [2, 3, 0] rfl ?_
      exact b_X3_readLeftOut_77 hC hR hQ hr hK8 _ _ _ h
    · have h := h.2 c_20
      refine k_aload_n hC (pc := 72) dX3_readLeftOut_72 2 rfl ?_
      refine k_iload_n hC (pc := 73) dX3_readLeftOut_73 1 rfl ?_
      obtain ⟨c_21, h⟩ := h
      refine pf_X3_5 hC (pc := 74) c_21 fl_RX3_11 dX3_readLeftOut_74 (fun s_22 h_s_22 => ?_)
      have h := h s_22 h_s_22
      refine k_sub [(0, .ref (adr X.G a 4 p0)), (1, .int x1), (3, .int r_11)] [2, 3, 0] rfl ?_
      exact b_X3_readLeftOut_77 hC hR hQ hr hK8 _ _ _ h
set_option maxHeartbeats 4000000 in
theorem b_X3_readLeftOut_8 {X : Kx} {a : Ax} {N : Nat} {p0 : Nat} {post : Sx → Prop}  (hC : Cx X cX3_readLeftOut 4 RX3) (hR : X.R = { frames := 4, cells := 0, slots := 0, locals := 88 }) (hQ : X.Q = MQ X.below (Qv X.G a post) X.av X.s 0 0 (bs_ X.G)) (hr : X.meth.sig.returnType = none)   : ∀ (n : Nat) (s : Sx) (x1 : Int32), w_X3_readLeftOut_8 N p0 post  n s x1 → wk X a s 4 8 [(0, .ref (adr X.G a 4 p0)), (1, .int x1)] [] 0 0 := by
  intro n
  induction n with
  | zero => intro s x1 h; exact h.elim
  | succ n ih =>
    intro s x1 h
    unfold w_X3_readLeftOut_8 at h
    refine k_iload_n hC (pc := 8) dX3_readLeftOut_8 1 rfl ?_
    refine k_bipush hC (pc := 9) (v := 7) dX3_readLeftOut_9 bp_7 ?_
    refine k_icmp_gt hC (pc := 11) 95 dX3_readLeftOut_11 (by decide) (fun c_2 => ?_) (fun c_2 => ?_)
    · have h := h.1 c_2
      exact k_vret hC (pc := 95) hQ hr dX3_readLeftOut_95 h
    · have h := h.2 c_2
      refine k_aload_n hC (pc := 14) dX3_readLeftOut_14 0 rfl ?_
      refine k_ci (rn_V hC (pc := 15) (As := []) (rest := []) ca_X3_isFaulty ml_RX3_57 im_X3_isFaulty se_X3_isFaulty (rx_in h.1) (ob4 _ _ _ _ _ _) rfl rfl (ct_X3_isFaulty p0 h.2) (by rw [hR]; exact ⟨rfl, rfl, by decide, by decide⟩) rfl (Nat.le_of_ble_eq_true rfl) dX3_readLeftOut_15 ⟨by rw [hR]; decide, by rw [hR]; decide⟩) (fun r_4 s_3 h => ?_)
      refine k_if_ne hC (pc := 18) 95 dX3_readLeftOut_18 (by decide) (fun c_5 => ?_) (fun c_5 => ?_)
      · have h := h.1 c_5
        exact k_vret hC (pc := 95) hQ hr dX3_readLeftOut_95 h
      · have h := h.2 c_5
        refine k_iload_n hC (pc := 21) dX3_readLeftOut_21 1 rfl ?_
        refine k_if_eq hC (pc := 22) 36 dX3_readLeftOut_22 (by decide) (fun c_6 => ?_) (fun c_6 => ?_)
        · have h := h.1 c_6
          exact b_X3_readLeftOut_36 hC hR hQ hr ih _ _ h
        · have h := h.2 c_6
          refine k_aload_n hC (pc := 25) dX3_readLeftOut_25 0 rfl ?_
          obtain ⟨c_23, h⟩ := h
          refine gf_X3_4 hC (pc := 26) c_23 fl_RX3_51 dX3_readLeftOut_26 ?_
          refine k_aload_n hC (pc := 29) dX3_readLeftOut_29 0 rfl ?_
          obtain ⟨c_24, h⟩ := h
          refine gf_X3_2 hC (pc := 30) c_24 fl_RX3_22 dX3_readLeftOut_30 ?_
          refine k_icmp_ge hC (pc := 33) 95 dX3_readLeftOut_33 (by decide) (fun c_25 => ?_) (fun c_25 => ?_)
          · have h := h.1 c_25
            exact k_vret hC (pc := 95) hQ hr dX3_readLeftOut_95 h
          · have h := h.2 c_25
            exact b_X3_readLeftOut_36 hC hR hQ hr ih _ _ h
set_option maxHeartbeats 4000000 in
theorem b_X3_readLeftOut {X : Kx} {a : Ax} {N : Nat} {post : Sx → Prop} (hC : Cx X cX3_readLeftOut 4 RX3) (hR : X.R = { frames := 4, cells := 0, slots := 0, locals := 88 }) (hQ : X.Q = MQ X.below (Qv X.G a post) X.av X.s 0 0 (bs_ X.G)) (hr : X.meth.sig.returnType = none) (hn : X.meth.name = "readLeftOut") (s : Sx) (p0 : Nat) (h : w_X3_readLeftOut N p0 s post) : wk X a s 4 0 [(0, .ref (adr X.G a 4 p0))] [] 0 0 := by
  unfold w_X3_readLeftOut at h
  refine k_aload_n hC (pc := 0) dX3_readLeftOut_0 0 rfl ?_
  refine k_bipush hC (pc := 1) (v := 33) dX3_readLeftOut_1 bp_33 ?_
  refine k_cv (rn_V hC (pc := 3) (As := [.int 33]) (rest := []) ca_X3_readSign ml_RX3_28 im_X3_readSign se_X3_readSign (rx_in h.1) (ob4 _ _ _ _ _ _) rfl rfl (ct_X3_readSign p0 33 h.2) (by rw [hR]; exact ⟨rfl, rfl, by decide, by decide⟩) rfl (Nat.le_of_ble_eq_true rfl) dX3_readLeftOut_3 ⟨by rw [hR]; decide, by rw [hR]; decide⟩) (fun s_1 h => ?_)
  refine k_iconst hC (pc := 6) (v := 0) dX3_readLeftOut_6 ic_0 ?_
  refine k_istore_n hC (pc := 7) dX3_readLeftOut_7 [(1, .int 0), (0, .ref (adr X.G a 4 p0))] (by decide) rfl ?_
  refine k_sub [(0, .ref (adr X.G a 4 p0)), (1, .int 0)] [1, 0] rfl ?_
  exact b_X3_readLeftOut_8 hC hR hQ hr N _ _ h
theorem ct_X3_readLeftOut {l : Launch} {G : Gx} {a : Ax} {s : Sx} {N : Nat} {post : Sx → Prop} (p0 : Nat) (h : w_X3_readLeftOut N p0 s post) : Met l yX3_readLeftOut (Cond.code yX3_readLeftOut cX3_readLeftOut 4 none :: gw) { frames := 4, cells := 0, slots := 0, locals := 88 } (va_Pc [.ref (adr G a 4 p0)] (fun U => FU G a s U)) (Qv G a post) 0 0 (bs_ G) := met_of (plainFor_of_name (by decide)) (Nat.le_of_ble_eq_true rfl) rfl (fun X hC hl hR hQ hr hG hn => by subst hG; exact b_X3_readLeftOut hC hR hQ hr hn s p0 h)
theorem ca_X3_readLeftOut : Ca yX3_readLeftOut cX3_readLeftOut 4 none 0 := ⟨cd_X3_readLeftOut, ii_RX3, by decide, by decide, by decide +kernel⟩
def w_X3_readAll (N : Nat) (p0 : Nat) (s : Sx) (post : Sx → Prop) : Prop := p0 < s.2.2 6 ∧ w_X3_readSign N p0 111 s (fun s_1 => p0 < s_1.2.2 6 ∧ w_X3_readNumber N p0 1 0 4 s_1 (fun r_3 s_2 => p0 < s_2.2.2 6 ∧ ∀ s_5, s_5 = setI s_2 4 p0 6 r_3 → p0 < s_5.2.2 6 ∧ w_X3_readSign N p0 104 s_5 (fun s_6 => p0 < s_6.2.2 6 ∧ w_X3_readNumber N p0 2 0 23 s_6 (fun r_8 s_7 => p0 < s_7.2.2 6 ∧ ∀ s_10, s_10 = setI s_7 4 p0 7 r_8 → p0 < s_10.2.2 6 ∧ w_X3_readSign N p0 45 s_10 (fun s_11 => p0 < s_11.2.2 6 ∧ p0 < s_11.2.2 6 ∧ w_X3_readNumber N p0 2 (s_11.1 4 p0 7) 23 s_11 (fun r_14 s_13 => p0 < s_13.2.2 6 ∧ ∀ s_16, s_16 = setI s_13 4 p0 8 r_14 → p0 < s_16.2.2 6 ∧ w_X3_readSign N p0 64 s_16 (fun s_17 => p0 < s_17.2.2 6 ∧ w_X3_readNumber N p0 3 0 399 s_17 (fun r_19 s_18 => p0 < s_18.2.2 6 ∧ ∀ s_21, s_21 = setI s_18 4 p0 9 r_19 → p0 < s_21.2.2 6 ∧ w_X3_readSign N p0 45 s_21 (fun s_22 => p0 < s_22.2.2 6 ∧ p0 < s_22.2.2 6 ∧ w_X3_readNumber N p0 3 (s_22.1 4 p0 9) 399 s_22 (fun r_25 s_24 => p0 < s_24.2.2 6 ∧ ∀ s_27, s_27 = setI s_24 4 p0 10 r_25 → p0 < s_27.2.2 6 ∧ p0 < s_27.2.2 6 ∧ ((s_27.1 4 p0 2) ≤ (s_27.1 4 p0 4) → post s_27) ∧ (¬ ((s_27.1 4 p0 2) ≤ (s_27.1 4 p0 4)) → p0 < s_27.2.2 6 ∧ w_X3_readLeftOut N p0 s_27 (fun s_31 => post s_31))))))))))))
set_option maxHeartbeats 4000000 in
theorem b_X3_readAll {X : Kx} {a : Ax} {N : Nat} {post : Sx → Prop} (hC : Cx X cX3_readAll 1 RX3) (hR : X.R = { frames := 5, cells := 0, slots := 0, locals := 111 }) (hQ : X.Q = MQ X.below (Qv X.G a post) X.av X.s 0 0 (bs_ X.G)) (hr : X.meth.sig.returnType = none) (hn : X.meth.name = "readAll") (s : Sx) (p0 : Nat) (h : w_X3_readAll N p0 s post) : wk X a s 1 0 [(0, .ref (adr X.G a 4 p0))] [] 0 0 := by
  unfold w_X3_readAll at h
  refine k_aload_n hC (pc := 0) dX3_readAll_0 0 rfl ?_
  refine k_bipush hC (pc := 1) (v := 111) dX3_readAll_1 bp_111 ?_
  refine k_cv (rn_V hC (pc := 3) (As := [.int 111]) (rest := []) ca_X3_readSign ml_RX3_28 im_X3_readSign se_X3_readSign (rx_in h.1) (ob4 _ _ _ _ _ _) rfl rfl (ct_X3_readSign p0 111 h.2) (by rw [hR]; exact ⟨rfl, rfl, by decide, by decide⟩) rfl (Nat.le_of_ble_eq_true rfl) dX3_readAll_3 ⟨by rw [hR]; decide, by rw [hR]; decide⟩) (fun s_1 h => ?_)
  refine k_aload_n hC (pc := 6) dX3_readAll_6 0 rfl ?_
  refine k_aload_n hC (pc := 7) dX3_readAll_7 0 rfl ?_
  refine k_iconst hC (pc := 8) (v := 1) dX3_readAll_8 ic_1 ?_
  refine k_iconst hC (pc := 9) (v := 0) dX3_readAll_9 ic_0 ?_
  refine k_iconst hC (pc := 10) (v := 4) dX3_readAll_10 ic_4 ?_
  refine k_ci (rn_V hC (pc := 11) (As := [.int 1, .int 0, .int 4]) (rest := [.ref (adr X.G a 4 p0)]) ca_X3_readNumber ml_RX3_32 im_X3_readNumber se_X3_readNumber (rx_in h.1) (ob4 _ _ _ _ _ _) rfl rfl (ct_X3_readNumber p0 1 0 4 h.2) (by rw [hR]; exact ⟨rfl, rfl, by decide, by decide⟩) rfl (Nat.le_of_ble_eq_true rfl) dX3_readAll_11 ⟨by rw [hR]; decide, by rw [hR]; decide⟩) (fun r_3 s_2 h => ?_)
  obtain ⟨c_4, h⟩ := h
  refine pf_X3_6 hC (pc := 14) c_4 fl_RX3_36 dX3_readAll_14 (fun s_5 h_s_5 => ?_)
  have h := h s_5 h_s_5
  refine k_aload_n hC (pc := 17) dX3_readAll_17 0 rfl ?_
  refine k_bipush hC (pc := 18) (v := 104) dX3_readAll_18 bp_104 ?_
  refine k_cv (rn_V hC (pc := 20) (As := [.int 104]) (rest := []) ca_X3_readSign ml_RX3_28 im_X3_readSign se_X3_readSign (rx_in h.1) (ob4 _ _ _ _ _ _) rfl rfl (ct_X3_readSign p0 104 h.2) (by rw [hR]; exact ⟨rfl, rfl, by decide, by decide⟩) rfl (Nat.le_of_ble_eq_true rfl) dX3_readAll_20 ⟨by rw [hR]; decide, by rw [hR]; decide⟩) (fun s_6 h => ?_)
  refine k_aload_n hC (pc := 23) dX3_readAll_23 0 rfl ?_
  refine k_aload_n hC (pc := 24) dX3_readAll_24 0 rfl ?_
  refine k_iconst hC (pc := 25) (v := 2) dX3_readAll_25 ic_2 ?_
  refine k_iconst hC (pc := 26) (v := 0) dX3_readAll_26 ic_0 ?_
  refine k_bipush hC (pc := 27) (v := 23) dX3_readAll_27 bp_23 ?_
  refine k_ci (rn_V hC (pc := 29) (As := [.int 2, .int 0, .int 23]) (rest := [.ref (adr X.G a 4 p0)]) ca_X3_readNumber ml_RX3_32 im_X3_readNumber se_X3_readNumber (rx_in h.1) (ob4 _ _ _ _ _ _) rfl rfl (ct_X3_readNumber p0 2 0 23 h.2) (by rw [hR]; exact ⟨rfl, rfl, by decide, by decide⟩) rfl (Nat.le_of_ble_eq_true rfl) dX3_readAll_29 ⟨by rw [hR]; decide, by rw [hR]; decide⟩) (fun r_8 s_7 h => ?_)
  obtain ⟨c_9, h⟩ := h
  refine pf_X3_7 hC (pc := 32) c_9 fl_RX3_39 dX3_readAll_32 (fun s_10 h_s_10 => ?_)
  have h := h s_10 h_s_10
  refine k_aload_n hC (pc := 35) dX3_readAll_35 0 rfl ?_
  refine k_bipush hC (pc := 36) (v := 45) dX3_readAll_36 bp_45 ?_
  refine k_cv (rn_V hC (pc := 38) (As := [.int 45]) (rest := []) ca_X3_readSign ml_RX3_28 im_X3_readSign se_X3_readSign (rx_in h.1) (ob4 _ _ _ _ _ _) rfl rfl (ct_X3_readSign p0 45 h.2) (by rw [hR]; exact ⟨rfl, rfl, by decide, by decide⟩) rfl (Nat.le_of_ble_eq_true rfl) dX3_readAll_38 ⟨by rw [hR]; decide, by rw [hR]; decide⟩) (fun s_11 h => ?_)
  refine k_aload_n hC (pc := 41) dX3_readAll_41 0 rfl ?_
  refine k_aload_n hC (pc := 42) dX3_readAll_42 0 rfl ?_
  refine k_iconst hC (pc := 43) (v := 2) dX3_readAll_43 ic_2 ?_
  refine k_aload_n hC (pc := 44) dX3_readAll_44 0 rfl ?_
  obtain ⟨c_12, h⟩ := h
  refine gf_X3_7 hC (pc := 45) c_12 fl_RX3_39 dX3_readAll_45 ?_
  refine k_bipush hC (pc := 48) (v := 23) dX3_readAll_48 bp_23 ?_
  refine k_ci (rn_V hC (pc := 50) (As := [.int 2, .int (s_11.1 4 p0 7), .int 23]) (rest := [.ref (adr X.G a 4 p0)]) ca_X3_readNumber ml_RX3_32 im_X3_readNumber se_X3_readNumber (rx_in h.1) (ob4 _ _ _ _ _ _) rfl rfl (ct_X3_readNumber p0 2 (s_11.1 4 p0 7) 23 h.2) (by rw [hR]; exact ⟨rfl, rfl, by decide, by decide⟩) rfl (Nat.le_of_ble_eq_true rfl) dX3_readAll_50 ⟨by rw [hR]; decide, by rw [hR]; decide⟩) (fun r_14 s_13 h => ?_)
  obtain ⟨c_15, h⟩ := h
  refine pf_X3_8 hC (pc := 53) c_15 fl_RX3_42 dX3_readAll_53 (fun s_16 h_s_16 => ?_)
  have h := h s_16 h_s_16
  refine k_aload_n hC (pc := 56) dX3_readAll_56 0 rfl ?_
  refine k_bipush hC (pc := 57) (v := 64) dX3_readAll_57 bp_64 ?_
  refine k_cv (rn_V hC (pc := 59) (As := [.int 64]) (rest := []) ca_X3_readSign ml_RX3_28 im_X3_readSign se_X3_readSign (rx_in h.1) (ob4 _ _ _ _ _ _) rfl rfl (ct_X3_readSign p0 64 h.2) (by rw [hR]; exact ⟨rfl, rfl, by decide, by decide⟩) rfl (Nat.le_of_ble_eq_true rfl) dX3_readAll_59 ⟨by rw [hR]; decide, by rw [hR]; decide⟩) (fun s_17 h => ?_)
  refine k_aload_n hC (pc := 62) dX3_readAll_62 0 rfl ?_
  refine k_aload_n hC (pc := 63) dX3_readAll_63 0 rfl ?_
  refine k_iconst hC (pc := 64) (v := 3) dX3_readAll_64 ic_3 ?_
  refine k_iconst hC (pc := 65) (v := 0) dX3_readAll_65 ic_0 ?_
  refine k_sipush hC (pc := 66) (v := 399) dX3_readAll_66 sp_399 ?_
  refine k_ci (rn_V hC (pc := 69) (As := [.int 3, .int 0, .int 399]) (rest := [.ref (adr X.G a 4 p0)]) ca_X3_readNumber ml_RX3_32 im_X3_readNumber se_X3_readNumber (rx_in h.1) (ob4 _ _ _ _ _ _) rfl rfl (ct_X3_readNumber p0 3 0 399 h.2) (by rw [hR]; exact ⟨rfl, rfl, by decide, by decide⟩) rfl (Nat.le_of_ble_eq_true rfl) dX3_readAll_69 ⟨by rw [hR]; decide, by rw [hR]; decide⟩) (fun r_19 s_18 h => ?_)
  obtain ⟨c_20, h⟩ := h
  refine pf_X3_9 hC (pc := 72) c_20 fl_RX3_45 dX3_readAll_72 (fun s_21 h_s_21 => ?_)
  have h := h s_21 h_s_21
  refine k_aload_n hC (pc := 75) dX3_readAll_75 0 rfl ?_
  refine k_bipush hC (pc := 76) (v := 45) dX3_readAll_76 bp_45 ?_
  refine k_cv (rn_V hC (pc := 78) (As := [.int 45]) (rest := []) ca_X3_readSign ml_RX3_28 im_X3_readSign se_X3_readSign (rx_in h.1) (ob4 _ _ _ _ _ _) rfl rfl (ct_X3_readSign p0 45 h.2) (by rw [hR]; exact ⟨rfl, rfl, by decide, by decide⟩) rfl (Nat.le_of_ble_eq_true rfl) dX3_readAll_78 ⟨by rw [hR]; decide, by rw [hR]; decide⟩) (fun s_22 h => ?_)
  refine k_aload_n hC (pc := 81) dX3_readAll_81 0 rfl ?_
  refine k_aload_n hC (pc := 82) dX3_readAll_82 0 rfl ?_
  refine k_iconst hC (pc := 83) (v := 3) dX3_readAll_83 ic_3 ?_
  refine k_aload_n hC (pc := 84) dX3_readAll_84 0 rfl ?_
  obtain ⟨c_23, h⟩ := h
  refine gf_X3_9 hC (pc := 85) c_23 fl_RX3_45 dX3_readAll_85 ?_
  refine k_sipush hC (pc := 88) (v := 399) dX3_readAll_88 sp_399 ?_
  refine k_ci (rn_V hC (pc := 91) (As := [.int 3, .int (s_22.1 4 p0 9), .int 399]) (rest := [.ref (adr X.G a 4 p0)]) ca_X3_readNumber ml_RX3_32 im_X3_readNumber se_X3_readNumber (rx_in h.1) (ob4 _ _ _ _ _ _) rfl rfl (ct_X3_readNumber p0 3 (s_22.1 4 p0 9) 399 h.2) (by rw [hR]; exact ⟨rfl, rfl, by decide, by decide⟩) rfl (Nat.le_of_ble_eq_true rfl) dX3_readAll_91 ⟨by rw [hR]; decide, by rw [hR]; decide⟩) (fun r_25 s_24 h => ?_)
  obtain ⟨c_26, h⟩ := h
  refine pf_X3_10 hC (pc := 94) c_26 fl_RX3_48 dX3_readAll_94 (fun s_27 h_s_27 => ?_)
  have h := h s_27 h_s_27
  refine k_aload_n hC (pc := 97) dX3_readAll_97 0 rfl ?_
  obtain ⟨c_28, h⟩ := h
  refine gf_X3_4 hC (pc := 98) c_28 fl_RX3_51 dX3_readAll_98 ?_
  refine k_aload_n hC (pc := 101) dX3_readAll_101 0 rfl ?_
  obtain ⟨c_29, h⟩ := h
  refine gf_X3_2 hC (pc := 102) c_29 fl_RX3_22 dX3_readAll_102 ?_
  refine k_icmp_ge hC (pc := 105) 112 dX3_readAll_105 (by decide) (fun c_30 => ?_) (fun c_30 => ?_)
  · have h := h.1 c_30
    exact k_vret hC (pc := 112) hQ hr dX3_readAll_112 h
  · have h := h.2 c_30
    refine k_aload_n hC (pc := 108) dX3_readAll_108 0 rfl ?_
    refine k_cv (rn_V hC (pc := 109) (As := []) (rest := []) ca_X3_readLeftOut ml_RX3_54 im_X3_readLeftOut se_X3_readLeftOut (rx_in h.1) (ob4 _ _ _ _ _ _) rfl rfl (ct_X3_readLeftOut p0 h.2) (by rw [hR]; exact ⟨rfl, rfl, by decide, by decide⟩) rfl (Nat.le_of_ble_eq_true rfl) dX3_readAll_109 ⟨by rw [hR]; decide, by rw [hR]; decide⟩) (fun s_31 h => ?_)
    exact k_vret hC (pc := 112) hQ hr dX3_readAll_112 h
theorem ct_X3_readAll {l : Launch} {G : Gx} {a : Ax} {s : Sx} {N : Nat} {post : Sx → Prop} (p0 : Nat) (h : w_X3_readAll N p0 s post) : Met l yX3_readAll (Cond.code yX3_readAll cX3_readAll 1 none :: gw) { frames := 5, cells := 0, slots := 0, locals := 111 } (va_Pc [.ref (adr G a 4 p0)] (fun U => FU G a s U)) (Qv G a post) 0 0 (bs_ G) := met_of (plainFor_of_name (by decide)) (Nat.le_of_ble_eq_true rfl) rfl (fun X hC hl hR hQ hr hG hn => by subst hG; exact b_X3_readAll hC hR hQ hr hn s p0 h)
theorem ca_X3_readAll : Ca yX3_readAll cX3_readAll 1 none 0 := ⟨cd_X3_readAll, ii_RX3, by decide, by decide, by decide +kernel⟩
def w_X4_changeHome_21 (N : Nat) (post : Int32 → Sx → Prop) (s : Sx) (x1 : Int32) (x2 : Int32) (z0 : Int32) : Prop := ∀ s_2, s_2 = setI s 0 9 1 x1 → ∀ s_3, s_3 = setI s_2 0 9 2 x2 → (z0 = 0 ∨ z0 = 1) ∧ post z0 s_3
def w_X4_changeHome_16 (N : Nat) (post : Int32 → Sx → Prop) (s : Sx) (x1 : Int32) (x2 : Int32) : Prop := w_X4_changeHome_21 N post s x1 x2 1
def w_X4_changeHome (N : Nat) (x1 : Int32) (x2 : Int32) (s : Sx) (post : Int32 → Sx → Prop) : Prop := (¬ x1 = (s.1 0 9 1) → w_X4_changeHome_16 N post s x1 x2) ∧ (¬ (¬ x1 = (s.1 0 9 1)) → (x2 = (s.1 0 9 2) → w_X4_changeHome_21 N post s x1 x2 0) ∧ (¬ (x2 = (s.1 0 9 2)) → w_X4_changeHome_16 N post s x1 x2))
set_option maxHeartbeats 4000000 in
theorem b_X4_changeHome_21 {X : Kx} {a : Ax} {N : Nat} {post : Int32 → Sx → Prop}  (hC : Cx X cX4_changeHome 4 RX4) (hR : X.R = { frames := 0, cells := 0, slots := 0, locals := 0 }) (hQ : X.Q = MQ X.below (Qi X.G a post) X.av X.s 0 0 (bs_ X.G)) (hr : X.meth.sig.returnType = (some .boolean))   (s : Sx) (x1 : Int32) (x2 : Int32) (z0 : Int32) (h : w_X4_changeHome_21 N post  s x1 x2 z0) : wk X a s 4 21 [(0, .ref (adr X.G a 0 9)), (1, .int x1), (2, .int x2)] [.int z0] 0 0 := by
  unfold w_X4_changeHome_21 at h
  refine k_istore_n hC (pc := 21) dX4_changeHome_21 [(3, .int z0), (0, .ref (adr X.G a 0 9)), (1, .int x1), (2, .int x2)] (by decide) rfl ?_
  refine k_aload_n hC (pc := 22) dX4_changeHome_22 1 rfl ?_
  refine k_iload_n hC (pc := 23) dX4_changeHome_23 2 rfl ?_
  refine pf_X4_1 hC (pc := 24)  fl_RX4_15 dX4_changeHome_24 (fun s_2 h_s_2 => ?_)
  have h := h s_2 h_s_2
  refine k_aload_n hC (pc := 27) dX4_changeHome_27 1 rfl ?_
  refine k_iload_n hC (pc := 28) dX4_changeHome_28 3 rfl ?_
  refine pf_X4_2 hC (pc := 29)  fl_RX4_19 dX4_changeHome_29 (fun s_3 h_s_3 => ?_)
  have h := h s_3 h_s_3
  refine k_iload_n hC (pc := 32) dX4_changeHome_32 0 rfl ?_
  obtain ⟨c_4, h⟩ := h
  exact k_zret hC (pc := 33) hQ hr dX4_changeHome_33 c_4 h
set_option maxHeartbeats 4000000 in
theorem b_X4_changeHome_16 {X : Kx} {a : Ax} {N : Nat} {post : Int32 → Sx → Prop}  (hC : Cx X cX4_changeHome 4 RX4) (hR : X.R = { frames := 0, cells := 0, slots := 0, locals := 0 }) (hQ : X.Q = MQ X.below (Qi X.G a post) X.av X.s 0 0 (bs_ X.G)) (hr : X.meth.sig.returnType = (some .boolean))   (s : Sx) (x1 : Int32) (x2 : Int32) (h : w_X4_changeHome_16 N post  s x1 x2) : wk X a s 4 16 [(0, .ref (adr X.G a 0 9)), (1, .int x1), (2, .int x2)] [] 0 0 := by
  unfold w_X4_changeHome_16 at h
  refine k_iconst hC (pc := 16) (v := 1) dX4_changeHome_16 ic_1 ?_
  refine k_goto hC (pc := 17) 21 dX4_changeHome_17 (by decide) ?_
  exact b_X4_changeHome_21 hC hR hQ hr _ _ _ _ h
set_option maxHeartbeats 4000000 in
theorem b_X4_changeHome {X : Kx} {a : Ax} {N : Nat} {post : Int32 → Sx → Prop} (hC : Cx X cX4_changeHome 4 RX4) (hR : X.R = { frames := 0, cells := 0, slots := 0, locals := 0 }) (hQ : X.Q = MQ X.below (Qi X.G a post) X.av X.s 0 0 (bs_ X.G)) (hr : X.meth.sig.returnType = (some .boolean)) (hn : X.meth.name = "changeHome") (s : Sx) (x1 : Int32) (x2 : Int32) (h : w_X4_changeHome N x1 x2 s post) : wk X a s 4 0 [(0, .ref (adr X.G a 0 9)), (1, .int x1), (2, .int x2)] [] 0 0 := by
  unfold w_X4_changeHome at h
  refine k_iload_n hC (pc := 0) dX4_changeHome_0 1 rfl ?_
  refine k_aload_n hC (pc := 1) dX4_changeHome_1 0 rfl ?_
  refine gf_X4_1 hC (pc := 2)  fl_RX4_15 dX4_changeHome_2 ?_
  refine k_icmp_ne hC (pc := 5) 16 dX4_changeHome_5 (by decide) (fun c_1 => ?_) (fun c_1 => ?_)
  · have h := h.1 c_1
    exact b_X4_changeHome_16 hC hR hQ hr _ _ _ h
  · have h := h.2 c_1
    refine k_iload_n hC (pc := 8) dX4_changeHome_8 2 rfl ?_
    refine k_aload_n hC (pc := 9) dX4_changeHome_9 0 rfl ?_
    refine gf_X4_2 hC (pc := 10)  fl_RX4_19 dX4_changeHome_10 ?_
    refine k_icmp_eq hC (pc := 13) 20 dX4_changeHome_13 (by decide) (fun c_5 => ?_) (fun c_5 => ?_)
    · have h := h.1 c_5
      refine k_iconst hC (pc := 20) (v := 0) dX4_changeHome_20 ic_0 ?_
      exact b_X4_changeHome_21 hC hR hQ hr _ _ _ _ h
    · have h := h.2 c_5
      exact b_X4_changeHome_16 hC hR hQ hr _ _ _ h
theorem ct_X4_changeHome {l : Launch} {G : Gx} {a : Ax} {s : Sx} {N : Nat} {post : Int32 → Sx → Prop} (x1 : Int32) (x2 : Int32) (h : w_X4_changeHome N x1 x2 s post) : Met l yX4_changeHome (Cond.code yX4_changeHome cX4_changeHome 4 (some .boolean) :: gw) { frames := 0, cells := 0, slots := 0, locals := 0 } (va_Pc [.ref (adr G a 0 9), .int x1, .int x2] (fun U => FU G a s U)) (Qi G a post) 0 0 (bs_ G) := met_of (plainFor_of_name (by decide)) (Nat.le_of_ble_eq_true rfl) rfl (fun X hC hl hR hQ hr hG hn => by subst hG; exact b_X4_changeHome hC hR hQ hr hn s x1 x2 h)
theorem ca_X4_changeHome : Ca yX4_changeHome cX4_changeHome 4 (some .boolean) 2 := ⟨cd_X4_changeHome, ii_RX4, by decide, by decide, by decide +kernel⟩
def w_X4_addFine (N : Nat) (x1 : Int32) (x2 : Int32) (x3 : Int32) (s : Sx) (post : Int32 → Sx → Prop) : Prop := ((s.1 0 9 6) < 30 → vp_in (s.1 0 9 6) 30 ∧ ∀ s_3, s_3 = setI s 0 11 (s.1 0 9 6).toNatClampNeg x1 → vp_in (s_3.1 0 9 6) 30 ∧ ∀ s_5, s_5 = setI s_3 0 12 (s_3.1 0 9 6).toNatClampNeg x2 → vp_in (s_5.1 0 9 6) 30 ∧ ∀ s_7, s_7 = setI s_5 0 13 (s_5.1 0 9 6).toNatClampNeg x3 → ∀ s_8, s_8 = setI s_7 0 9 6 ((s_7.1 0 9 6) + 1) → post (s_8.1 0 9 6) s_8) ∧ (¬ ((s.1 0 9 6) < 30) → post ((-4)) s)
set_option maxHeartbeats 4000000 in
theorem b_X4_addFine {X : Kx} {a : Ax} {N : Nat} {post : Int32 → Sx → Prop} (hC : Cx X cX4_addFine 4 RX4) (hR : X.R = { frames := 0, cells := 0, slots := 0, locals := 0 }) (hQ : X.Q = MQ X.below (Qi X.G a post) X.av X.s 0 0 (bs_ X.G)) (hr : X.meth.sig.returnType = (some .int)) (hn : X.meth.name = "addFine") (s : Sx) (x1 : Int32) (x2 : Int32) (x3 : Int32) (h : w_X4_addFine N x1 x2 x3 s post) : wk X a s 4 0 [(0, .ref (adr X.G a 0 9)), (1, .int x1), (2, .int x2), (3, .int x3)] [] 0 0 := by
  unfold w_X4_addFine at h
  refine k_aload_n hC (pc := 0) dX4_addFine_0 0 rfl ?_
  refine gf_X4_6 hC (pc := 1)  fl_RX4_31 dX4_addFine_1 ?_
  refine k_bipush hC (pc := 4) (v := 30) dX4_addFine_4 bp_30 ?_
  refine k_icmp_lt hC (pc := 6) 12 dX4_addFine_6 (by decide) (fun c_1 => ?_) (fun c_1 => ?_)
  · have h := h.1 c_1
    refine k_aload_n hC (pc := 12) dX4_addFine_12 0 rfl ?_
    refine gf_X4_3 hC (pc := 13)  fl_RX4_22 dX4_addFine_13 ?_
    refine k_aload_n hC (pc := 16) dX4_addFine_16 0 rfl ?_
    refine gf_X4_6 hC (pc := 17)  fl_RX4_31 dX4_addFine_17 ?_
    refine k_iload_n hC (pc := 20) dX4_addFine_20 1 rfl ?_
    obtain ⟨c_2, h⟩ := h
    refine r_iast hC (pc := 21) ra0_11 c_2 dX4_addFine_21 (fun s_3 h_s_3 => ?_)
    have h := h s_3 h_s_3
    refine k_aload_n hC (pc := 22) dX4_addFine_22 0 rfl ?_
    refine gf_X4_4 hC (pc := 23)  fl_RX4_25 dX4_addFine_23 ?_
    refine k_aload_n hC (pc := 26) dX4_addFine_26 0 rfl ?_
    refine gf_X4_6 hC (pc := 27)  fl_RX4_31 dX4_addFine_27 ?_
    refine k_iload_n hC (pc := 30) dX4_addFine_30 2 rfl ?_
    obtain ⟨c_4, h⟩ := h
    refine r_iast hC (pc := 31) ra0_12 c_4 dX4_addFine_31 (fun s_5 h_s_5 => ?_)
    have h := h s_5 h_s_5
    refine k_aload_n hC (pc := 32) dX4_addFine_32 0 rfl ?_
    refine gf_X4_5 hC (pc := 33)  fl_RX4_28 dX4_addFine_33 ?_
    refine k_aload_n hC (pc := 36) dX4_addFine_36 0 rfl ?_
    refine gf_X4_6 hC (pc := 37)  fl_RX4_31 dX4_addFine_37 ?_
    refine k_iload_n hC (pc := 40) dX4_addFine_40 3 rfl ?_
    obtain ⟨c_6, h⟩ := h
    refine r_iast hC (pc := 41) ra0_13 c_6 dX4_addFine_41 (fun s_7 h_s_7 => ?_)
    have h := h s_7 h_s_7
    refine k_aload_n hC (pc := 42) dX4_addFine_42 0 rfl ?_
    refine k_dup hC (pc := 43) dX4_addFine_43 rfl ?_
    refine gf_X4_6 hC (pc := 44)  fl_RX4_31 dX4_addFine_44 ?_
    refine k_iconst hC (pc := 47) (v := 1) dX4_addFine_47 ic_1 ?_
    refine k_iadd hC (pc := 48) dX4_addFine_48 ?_
    refine pf_X4_6 hC (pc := 49)  fl_RX4_31 dX4_addFine_49 (fun s_8 h_s_8 => ?_)
    have h := h s_8 h_s_8
    refine k_aload_n hC (pc := 52) dX4_addFine_52 0 rfl ?_
    refine gf_X4_6 hC (pc := 53)  fl_RX4_31 dX4_addFine_53 ?_
    exact k_iret hC (pc := 56) hQ hr dX4_addFine_56 h
  · have h := h.2 c_1
    refine k_bipush hC (pc := 9) (v := (-4)) dX4_addFine_9 bp_m4 ?_
    exact k_iret hC (pc := 11) hQ hr dX4_addFine_11 h
theorem ct_X4_addFine {l : Launch} {G : Gx} {a : Ax} {s : Sx} {N : Nat} {post : Int32 → Sx → Prop} (x1 : Int32) (x2 : Int32) (x3 : Int32) (h : w_X4_addFine N x1 x2 x3 s post) : Met l yX4_addFine (Cond.code yX4_addFine cX4_addFine 4 (some .int) :: gw) { frames := 0, cells := 0, slots := 0, locals := 0 } (va_Pc [.ref (adr G a 0 9), .int x1, .int x2, .int x3] (fun U => FU G a s U)) (Qi G a post) 0 0 (bs_ G) := met_of (plainFor_of_name (by decide)) (Nat.le_of_ble_eq_true rfl) rfl (fun X hC hl hR hQ hr hG hn => by subst hG; exact b_X4_addFine hC hR hQ hr hn s x1 x2 x3 h)
theorem ca_X4_addFine : Ca yX4_addFine cX4_addFine 4 (some .int) 3 := ⟨cd_X4_addFine, ii_RX4, by decide, by decide, by decide +kernel⟩
def w_X4_finesOf_6 (N : Nat) (post : Int32 → Sx → Prop) : Nat → Sx → Int32 → Int32 → Int32 → Int32 → Int32 → Prop
  | 0, _, _, _, _, _, _ => False
  | n + 1, s, x1, x2, x3, x4, x5 => ((s.1 0 9 6) ≤ x5 → post x4 s) ∧ (¬ ((s.1 0 9 6) ≤ x5) → vp_in x5 30 ∧ (¬ (s.1 0 11 x5.toNatClampNeg) = x1 → ∀ x_4 : Int32, x_4 = x5 + 1 → w_X4_finesOf_6 N post n s x1 x2 x3 x4 x_4) ∧ (¬ (¬ (s.1 0 11 x5.toNatClampNeg) = x1) → vp_in x5 30 ∧ w_X11_isWithin N (s.1 0 12 x5.toNatClampNeg) x2 x3 s (fun r_7 s_6 => (r_7 = 0 → ∀ x_9 : Int32, x_9 = x5 + 1 → w_X4_finesOf_6 N post n s_6 x1 x2 x3 x4 x_9) ∧ (¬ (r_7 = 0) → vp_in x5 30 ∧ ∀ x_11 : Int32, x_11 = x4 + (s_6.1 0 13 x5.toNatClampNeg) → ∀ x_12 : Int32, x_12 = x5 + 1 → w_X4_finesOf_6 N post n s_6 x1 x2 x3 x_11 x_12))))
def w_X4_finesOf (N : Nat) (x1 : Int32) (x2 : Int32) (x3 : Int32) (s : Sx) (post : Int32 → Sx → Prop) : Prop := w_X4_finesOf_6 N post N s x1 x2 x3 0 0
set_option maxHeartbeats 4000000 in
theorem b_X4_finesOf_6 {X : Kx} {a : Ax} {N : Nat} {post : Int32 → Sx → Prop}  (hC : Cx X cX4_finesOf 6 RX4) (hR : X.R = { frames := 1, cells := 0, slots := 0, locals := 22 }) (hQ : X.Q = MQ X.below (Qi X.G a post) X.av X.s 0 0 (bs_ X.G)) (hr : X.meth.sig.returnType = (some .int))   : ∀ (n : Nat) (s : Sx) (x1 : Int32) (x2 : Int32) (x3 : Int32) (x4 : Int32) (x5 : Int32), w_X4_finesOf_6 N post  n s x1 x2 x3 x4 x5 → wk X a s 6 6 [(0, .ref (adr X.G a 0 9)), (1, .int x1), (2, .int x2), (3, .int x3), (4, .int x4), (5, .int x5)] [] 0 0 := by
  intro n
  induction n with
  | zero => intro s x1 x2 x3 x4 x5 h; exact h.elim
  | succ n ih =>
    intro s x1 x2 x3 x4 x5 h
    unfold w_X4_finesOf_6 at h
    refine k_iload hC (pc := 6) dX4_finesOf_6 5 rfl ?_
    refine k_aload_n hC (pc := 8) dX4_finesOf_8 0 rfl ?_
    refine gf_X4_6 hC (pc := 9)  fl_RX4_31 dX4_finesOf_9 ?_
    refine k_icmp_ge hC (pc := 12) 59 dX4_finesOf_12 (by decide) (fun c_1 => ?_) (fun c_1 => ?_)
    · have h := h.1 c_1
      refine k_iload hC (pc := 59) dX4_finesOf_59 4 rfl ?_
      exact k_iret hC (pc := 61) hQ hr dX4_finesOf_61 h
    · have h := h.2 c_1
      refine k_aload_n hC (pc := 15) dX4_finesOf_15 0 rfl ?_
      refine gf_X4_3 hC (pc := 16)  fl_RX4_22 dX4_finesOf_16 ?_
      refine k_iload hC (pc := 19) dX4_finesOf_19 5 rfl ?_
      obtain ⟨c_2, h⟩ := h
      refine r_iald hC (pc := 21) ra0_11 c_2 dX4_finesOf_21 ?_
      refine k_iload_n hC (pc := 22) dX4_finesOf_22 1 rfl ?_
      refine k_icmp_ne hC (pc := 23) 53 dX4_finesOf_23 (by decide) (fun c_3 => ?_) (fun c_3 => ?_)
      · have h := h.1 c_3
        obtain ⟨x_4, h_x_4⟩ : ∃ z : Int32, z = x5 + 1 := ⟨_, rfl⟩
        have h := h x_4 h_x_4
        refine k_iincw hC (pc := 53) dX4_finesOf_53 5 rfl ic_1 h_x_4.symm [(5, .int x_4), (0, .ref (adr X.G a 0 9)), (1, .int x1), (2, .int x2), (3, .int x3), (4, .int x4)] (by decide) rfl ?_
        refine k_goto hC (pc := 56) 6 dX4_finesOf_56 (by decide) ?_
        refine k_sub [(0, .ref (adr X.G a 0 9)), (1, .int x1), (2, .int x2), (3, .int x3), (4, .int x4), (5, .int x_4)] [1, 2, 3, 4, 5, 0] rfl ?_
        exact ih _ _ _ _ _ _ h
      · have h := h.2 c_3
        refine k_aload_n hC (pc := 26) dX4_finesOf_26 0 rfl ?_
        refine gf_X4_4 hC (pc := 27)  fl_RX4_25 dX4_finesOf_27 ?_
        refine k_iload hC (pc := 30) dX4_finesOf_30 5 rfl ?_
        obtain ⟨c_5, h⟩ := h
        refine r_iald hC (pc := 32) ra0_12 c_5 dX4_finesOf_32 ?_
        refine k_iload_n hC (pc := 33) dX4_finesOf_33 2 rfl ?_
        refine k_iload_n hC (pc := 34) dX4_finesOf_34 3 rfl ?_
        refine k_ci (rn_SN hC (pc := 35) (As := [.int (s.1 0 12 x5.toNatClampNeg), .int x2, .int x3]) (rest := []) ca_X11_isWithin nl_RX4_34 sm_X11_isWithin (ct_X11_isWithin (s.1 0 12 x5.toNatClampNeg) x2 x3 h) (by rw [hR]; exact ⟨rfl, rfl, by decide, by decide⟩) rfl (Nat.le_of_ble_eq_true rfl) dX4_finesOf_35 ⟨by rw [hR]; decide, by rw [hR]; decide⟩) (fun r_7 s_6 h => ?_)
        refine k_if_eq hC (pc := 38) 53 dX4_finesOf_38 (by decide) (fun c_8 => ?_) (fun c_8 => ?_)
        · have h := h.1 c_8
          obtain ⟨x_9, h_x_9⟩ : ∃ z : Int32, z = x5 + 1 := ⟨_, rfl⟩
          have h := h x_9 h_x_9
          refine k_iincw hC (pc := 53) dX4_finesOf_53 5 rfl ic_1 h_x_9.symm [(5, .int x_9), (0, .ref (adr X.G a 0 9)), (1, .int x1), (2, .int x2), (3, .int x3), (4, .int x4)] (by decide) rfl ?_
          refine k_goto hC (pc := 56) 6 dX4_finesOf_56 (by decide) ?_
          refine k_sub [(0, .ref (adr X.G a 0 9)), (1, .int x1), (2, .int x2), (3, .int x3), (4, .int x4), (5, .int x_9)] [1, 2, 3, 4, 5, 0] rfl ?_
          exact ih _ _ _ _ _ _ h
        · have h := h.2 c_8
          refine k_iload hC (pc := 41) dX4_finesOf_41 4 rfl ?_
          refine k_aload_n hC (pc := 43) dX4_finesOf_43 0 rfl ?_
          refine gf_X4_5 hC (pc := 44)  fl_RX4_28 dX4_finesOf_44 ?_
          refine k_iload hC (pc := 47) dX4_finesOf_47 5 rfl ?_
          obtain ⟨c_10, h⟩ := h
          refine r_iald hC (pc := 49) ra0_13 c_10 dX4_finesOf_49 ?_
          refine k_iadd hC (pc := 50) dX4_finesOf_50 ?_
          refine k_topi (fun x_11 h_x_11 => ?_)
          have h := h x_11 h_x_11
          refine k_istore hC (pc := 51) dX4_finesOf_51 [(4, .int x_11), (0, .ref (adr X.G a 0 9)), (1, .int x1), (2, .int x2), (3, .int x3), (5, .int x5)] (by decide) rfl ?_
          obtain ⟨x_12, h_x_12⟩ : ∃ z : Int32, z = x5 + 1 := ⟨_, rfl⟩
          have h := h x_12 h_x_12
          refine k_iincw hC (pc := 53) dX4_finesOf_53 5 rfl ic_1 h_x_12.symm [(5, .int x_12), (4, .int x_11), (0, .ref (adr X.G a 0 9)), (1, .int x1), (2, .int x2), (3, .int x3)] (by decide) rfl ?_
          refine k_goto hC (pc := 56) 6 dX4_finesOf_56 (by decide) ?_
          refine k_sub [(0, .ref (adr X.G a 0 9)), (1, .int x1), (2, .int x2), (3, .int x3), (4, .int x_11), (5, .int x_12)] [2, 3, 4, 5, 1, 0] rfl ?_
          exact ih _ _ _ _ _ _ h
set_option maxHeartbeats 4000000 in
theorem b_X4_finesOf {X : Kx} {a : Ax} {N : Nat} {post : Int32 → Sx → Prop} (hC : Cx X cX4_finesOf 6 RX4) (hR : X.R = { frames := 1, cells := 0, slots := 0, locals := 22 }) (hQ : X.Q = MQ X.below (Qi X.G a post) X.av X.s 0 0 (bs_ X.G)) (hr : X.meth.sig.returnType = (some .int)) (hn : X.meth.name = "finesOf") (s : Sx) (x1 : Int32) (x2 : Int32) (x3 : Int32) (h : w_X4_finesOf N x1 x2 x3 s post) : wk X a s 6 0 [(0, .ref (adr X.G a 0 9)), (1, .int x1), (2, .int x2), (3, .int x3)] [] 0 0 := by
  unfold w_X4_finesOf at h
  refine k_iconst hC (pc := 0) (v := 0) dX4_finesOf_0 ic_0 ?_
  refine k_istore hC (pc := 1) dX4_finesOf_1 [(4, .int 0), (0, .ref (adr X.G a 0 9)), (1, .int x1), (2, .int x2), (3, .int x3)] (by decide) rfl ?_
  refine k_iconst hC (pc := 3) (v := 0) dX4_finesOf_3 ic_0 ?_
  refine k_istore hC (pc := 4) dX4_finesOf_4 [(5, .int 0), (4, .int 0), (0, .ref (adr X.G a 0 9)), (1, .int x1), (2, .int x2), (3, .int x3)] (by decide) rfl ?_
  refine k_sub [(0, .ref (adr X.G a 0 9)), (1, .int x1), (2, .int x2), (3, .int x3), (4, .int 0), (5, .int 0)] [2, 3, 4, 5, 1, 0] rfl ?_
  exact b_X4_finesOf_6 hC hR hQ hr N _ _ _ _ _ _ h
theorem ct_X4_finesOf {l : Launch} {G : Gx} {a : Ax} {s : Sx} {N : Nat} {post : Int32 → Sx → Prop} (x1 : Int32) (x2 : Int32) (x3 : Int32) (h : w_X4_finesOf N x1 x2 x3 s post) : Met l yX4_finesOf (Cond.code yX4_finesOf cX4_finesOf 6 (some .int) :: gw) { frames := 1, cells := 0, slots := 0, locals := 22 } (va_Pc [.ref (adr G a 0 9), .int x1, .int x2, .int x3] (fun U => FU G a s U)) (Qi G a post) 0 0 (bs_ G) := met_of (plainFor_of_name (by decide)) (Nat.le_of_ble_eq_true rfl) rfl (fun X hC hl hR hQ hr hG hn => by subst hG; exact b_X4_finesOf hC hR hQ hr hn s x1 x2 x3 h)
theorem ca_X4_finesOf : Ca yX4_finesOf cX4_finesOf 6 (some .int) 3 := ⟨cd_X4_finesOf, ii_RX4, by decide, by decide, by decide +kernel⟩
