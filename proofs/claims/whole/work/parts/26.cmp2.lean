def w_X10_toldOnBy (N : Nat) (x1 : Int32) (x2 : Int64) (s : Sx) (post : Int64 → Sx → Prop) : Prop := vp_in x1 5 ∧ vp_in x1 5 ∧ vp_in x1 5 ∧ w_X11_quotient N (((x2 * ((s.1 0 17 x1.toNatClampNeg).toInt64)) + ((s.1 0 18 x1.toNatClampNeg).toInt64)) - 1) ((s.1 0 18 x1.toNatClampNeg).toInt64) s (fun r_5 s_4 => post r_5 s_4)
set_option maxHeartbeats 4000000 in
theorem b_X10_toldOnBy {X : Kx} {a : Ax} {N : Nat} {post : Int64 → Sx → Prop} (hC : Cx X cX10_toldOnBy 4 RX10) (hR : X.R = { frames := 1, cells := 0, slots := 0, locals := 23 }) (hQ : X.Q = MQ X.below (Ql X.G a post) X.av X.s 0 0 (bs_ X.G)) (hr : X.meth.sig.returnType = (some .long)) (hn : X.meth.name = "toldOnBy") (s : Sx) (x1 : Int32) (x2 : Int64) (h : w_X10_toldOnBy N x1 x2 s post) : wk X a s 4 0 [(0, .ref (adr X.G a 0 14)), (1, .int x1), (2, .long x2)] [] 0 0 := by
  unfold w_X10_toldOnBy at h
  refine k_lload_n hC (pc := 0) dX10_toldOnBy_0 2 rfl ?_
  refine k_aload_n hC (pc := 1) dX10_toldOnBy_1 0 rfl ?_
  refine gf_X10_5 hC (pc := 2)  fl_RX10_25 dX10_toldOnBy_2 ?_
  refine k_iload_n hC (pc := 5) dX10_toldOnBy_5 1 rfl ?_
  obtain ⟨c_1, h⟩ := h
  refine r_iald hC (pc := 6) ra0_17 c_1 dX10_toldOnBy_6 ?_
  refine k_i2l hC (pc := 7) dX10_toldOnBy_7 ?_
  refine k_lmul hC (pc := 8) dX10_toldOnBy_8 ?_
  refine k_aload_n hC (pc := 9) dX10_toldOnBy_9 0 rfl ?_
  refine gf_X10_6 hC (pc := 10)  fl_RX10_28 dX10_toldOnBy_10 ?_
  refine k_iload_n hC (pc := 13) dX10_toldOnBy_13 1 rfl ?_
  obtain ⟨c_2, h⟩ := h
  refine r_iald hC (pc := 14) ra0_18 c_2 dX10_toldOnBy_14 ?_
  refine k_i2l hC (pc := 15) dX10_toldOnBy_15 ?_
  refine k_ladd hC (pc := 16) dX10_toldOnBy_16 ?_
  refine k_lconst hC (pc := 17) (v := 1) dX10_toldOnBy_17 rfl ?_
  refine k_lsub hC (pc := 18) dX10_toldOnBy_18 ?_
  refine k_aload_n hC (pc := 19) dX10_toldOnBy_19 0 rfl ?_
  refine gf_X10_6 hC (pc := 20)  fl_RX10_28 dX10_toldOnBy_20 ?_
  refine k_iload_n hC (pc := 23) dX10_toldOnBy_23 1 rfl ?_
  obtain ⟨c_3, h⟩ := h
  refine r_iald hC (pc := 24) ra0_18 c_3 dX10_toldOnBy_24 ?_
  refine k_i2l hC (pc := 25) dX10_toldOnBy_25 ?_
  refine k_cl (rn_SN hC (pc := 26) (As := [.long (((x2 * ((s.1 0 17 x1.toNatClampNeg).toInt64)) + ((s.1 0 18 x1.toNatClampNeg).toInt64)) - 1), .long ((s.1 0 18 x1.toNatClampNeg).toInt64)]) (rest := []) ca_X11_quotient nl_RX10_61 sm_X11_quotient (ct_X11_quotient (((x2 * ((s.1 0 17 x1.toNatClampNeg).toInt64)) + ((s.1 0 18 x1.toNatClampNeg).toInt64)) - 1) ((s.1 0 18 x1.toNatClampNeg).toInt64) h) (by rw [hR]; exact ⟨rfl, rfl, by decide, by decide⟩) rfl (Nat.le_of_ble_eq_true rfl) dX10_toldOnBy_26 ⟨by rw [hR]; decide, by rw [hR]; decide⟩) (fun r_5 s_4 h => ?_)
  exact k_lret hC (pc := 29) hQ hr dX10_toldOnBy_29 h
theorem ct_X10_toldOnBy {l : Launch} {G : Gx} {a : Ax} {s : Sx} {N : Nat} {post : Int64 → Sx → Prop} (x1 : Int32) (x2 : Int64) (h : w_X10_toldOnBy N x1 x2 s post) : Met l yX10_toldOnBy (Cond.code yX10_toldOnBy cX10_toldOnBy 4 (some .long) :: gw) { frames := 1, cells := 0, slots := 0, locals := 23 } (va_Pc [.ref (adr G a 0 14), .int x1, .long x2] (fun U => FU G a s U)) (Ql G a post) 0 0 (bs_ G) := met_of (plainFor_of_name (by decide)) (Nat.le_of_ble_eq_true rfl) rfl (fun X hC hl hR hQ hr hG hn => by subst hG; exact b_X10_toldOnBy hC hR hQ hr hn s x1 x2 h)
theorem ca_X10_toldOnBy : Ca yX10_toldOnBy cX10_toldOnBy 4 (some .long) 2 := ⟨cd_X10_toldOnBy, ii_RX10, by decide, by decide, by decide +kernel⟩
def w_X10_toldBehind_9 (N : Nat) (p1 : Nat) (post : Int64 → Sx → Prop) : Nat → Sx → Int32 → Int64 → Int32 → Prop
  | 0, _, _, _, _ => False
  | n + 1, s, x2, y3, x5 => (x2 < x5 → post y3 s) ∧ (¬ (x2 < x5) → w_X10_toldOnBy N x5 y3 s (fun r_5 s_4 => ∀ x_6 : Int32, x_6 = x5 + 1 → w_X10_toldBehind_9 N p1 post n s_4 x2 r_5 x_6))
def w_X10_toldBehind (N : Nat) (p1 : Nat) (x2 : Int32) (s : Sx) (post : Int64 → Sx → Prop) : Prop := p1 < s.2.2 4 ∧ ∀ x_2 : Int64, x_2 = (s.1 3 p1 7).toInt64 → w_X10_toldBehind_9 N p1 post N s x2 x_2 0
set_option maxHeartbeats 4000000 in
theorem b_X10_toldBehind_9 {X : Kx} {a : Ax} {N : Nat} {p1 : Nat} {post : Int64 → Sx → Prop}  (hC : Cx X cX10_toldBehind 6 RX10) (hR : X.R = { frames := 2, cells := 0, slots := 0, locals := 46 }) (hQ : X.Q = MQ X.below (Ql X.G a post) X.av X.s 0 0 (bs_ X.G)) (hr : X.meth.sig.returnType = (some .long))   : ∀ (n : Nat) (s : Sx) (x2 : Int32) (y3 : Int64) (x5 : Int32), w_X10_toldBehind_9 N p1 post  n s x2 y3 x5 → wk X a s 6 9 [(0, .ref (adr X.G a 0 14)), (2, .int x2), (3, .long y3), (5, .int x5)] [] 0 0 := by
  intro n
  induction n with
  | zero => intro s x2 y3 x5 h; exact h.elim
  | succ n ih =>
    intro s x2 y3 x5 h
    unfold w_X10_toldBehind_9 at h
    refine k_iload hC (pc := 9) dX10_toldBehind_9 3 rfl ?_
    refine k_iload_n hC (pc := 11) dX10_toldBehind_11 1 rfl ?_
    refine k_icmp_gt hC (pc := 12) 29 dX10_toldBehind_12 (by decide) (fun c_3 => ?_) (fun c_3 => ?_)
    · have h := h.1 c_3
      refine k_lload_n hC (pc := 29) dX10_toldBehind_29 2 rfl ?_
      exact k_lret hC (pc := 30) hQ hr dX10_toldBehind_30 h
    · have h := h.2 c_3
      refine k_aload_n hC (pc := 15) dX10_toldBehind_15 0 rfl ?_
      refine k_iload hC (pc := 16) dX10_toldBehind_16 3 rfl ?_
      refine k_lload_n hC (pc := 18) dX10_toldBehind_18 2 rfl ?_
      refine k_cl (rn_V hC (pc := 19) (As := [.int x5, .long y3]) (rest := []) ca_X10_toldOnBy ml_RX10_68 im_X10_toldOnBy se_X10_toldOnBy (fx_in f0_14) (ob0_14 _ _ _ _ _) rfl rfl (ct_X10_toldOnBy x5 y3 h) (by rw [hR]; exact ⟨rfl, rfl, by decide, by decide⟩) rfl (Nat.le_of_ble_eq_true rfl) dX10_toldBehind_19 ⟨by rw [hR]; decide, by rw [hR]; decide⟩) (fun r_5 s_4 h => ?_)
      refine k_lstore_n hC (pc := 22) dX10_toldBehind_22 [(3, .long r_5), (0, .ref (adr X.G a 0 14)), (2, .int x2), (5, .int x5)] (by decide) rfl ?_
      obtain ⟨x_6, h_x_6⟩ : ∃ z : Int32, z = x5 + 1 := ⟨_, rfl⟩
      have h := h x_6 h_x_6
      refine k_iincw hC (pc := 23) dX10_toldBehind_23 3 rfl ic_1 h_x_6.symm [(5, .int x_6), (3, .long r_5), (0, .ref (adr X.G a 0 14)), (2, .int x2)] (by decide) rfl ?_
      refine k_goto hC (pc := 26) 9 dX10_toldBehind_26 (by decide) ?_
      refine k_sub [(0, .ref (adr X.G a 0 14)), (2, .int x2), (3, .long r_5), (5, .int x_6)] [2, 3, 1, 0] rfl ?_
      exact ih _ _ _ _ h
set_option maxHeartbeats 4000000 in
theorem b_X10_toldBehind {X : Kx} {a : Ax} {N : Nat} {post : Int64 → Sx → Prop} (hC : Cx X cX10_toldBehind 6 RX10) (hR : X.R = { frames := 2, cells := 0, slots := 0, locals := 46 }) (hQ : X.Q = MQ X.below (Ql X.G a post) X.av X.s 0 0 (bs_ X.G)) (hr : X.meth.sig.returnType = (some .long)) (hn : X.meth.name = "toldBehind") (s : Sx) (p1 : Nat) (x2 : Int32) (h : w_X10_toldBehind N p1 x2 s post) : wk X a s 6 0 [(0, .ref (adr X.G a 0 14)), (1, .ref (adr X.G a 3 p1)), (2, .int x2)] [] 0 0 := by
  unfold w_X10_toldBehind at h
  refine k_aload_n hC (pc := 0) dX10_toldBehind_0 1 rfl ?_
  obtain ⟨c_1, h⟩ := h
  refine gf_X9_7 hC (pc := 1) c_1 fl_RX10_65 dX10_toldBehind_1 ?_
  refine k_i2l hC (pc := 4) dX10_toldBehind_4 ?_
  refine k_topl (fun x_2 h_x_2 => ?_)
  have h := h x_2 h_x_2
  refine k_lstore_n hC (pc := 5) dX10_toldBehind_5 [(3, .long x_2), (0, .ref (adr X.G a 0 14)), (1, .ref (adr X.G a 3 p1)), (2, .int x2)] (by decide) rfl ?_
  refine k_iconst hC (pc := 6) (v := 0) dX10_toldBehind_6 ic_0 ?_
  refine k_istore hC (pc := 7) dX10_toldBehind_7 [(5, .int 0), (3, .long x_2), (0, .ref (adr X.G a 0 14)), (1, .ref (adr X.G a 3 p1)), (2, .int x2)] (by decide) rfl ?_
  refine k_sub [(0, .ref (adr X.G a 0 14)), (2, .int x2), (3, .long x_2), (5, .int 0)] [2, 4, 1, 0] rfl ?_
  exact b_X10_toldBehind_9 hC hR hQ hr N _ _ _ _ h
theorem ct_X10_toldBehind {l : Launch} {G : Gx} {a : Ax} {s : Sx} {N : Nat} {post : Int64 → Sx → Prop} (p1 : Nat) (x2 : Int32) (h : w_X10_toldBehind N p1 x2 s post) : Met l yX10_toldBehind (Cond.code yX10_toldBehind cX10_toldBehind 6 (some .long) :: gw) { frames := 2, cells := 0, slots := 0, locals := 46 } (va_Pc [.ref (adr G a 0 14), .ref (adr G a 3 p1), .int x2] (fun U => FU G a s U)) (Ql G a post) 0 0 (bs_ G) := met_of (plainFor_of_name (by decide)) (Nat.le_of_ble_eq_true rfl) rfl (fun X hC hl hR hQ hr hG hn => by subst hG; exact b_X10_toldBehind hC hR hQ hr hn s p1 x2 h)
theorem ca_X10_toldBehind : Ca yX10_toldBehind cX10_toldBehind 6 (some .long) 2 := ⟨cd_X10_toldBehind, ii_RX10, by decide, by decide, by decide +kernel⟩
def w_X10_greatestGrowth_15 (N : Nat) (p1 : Nat) (post : Int32 → Sx → Prop) : Nat → Sx → Int32 → Int64 → Int64 → Int32 → Prop
  | 0, _, _, _, _, _ => False
  | n + 1, s, x2, y3, y5, x7 => (5 ≤ x7 → post x2 s) ∧ (¬ (5 ≤ x7) → w_X10_toldOnBy N x7 y5 s (fun r_5 s_4 => ((lg_cmp (r_5 - y5) y3) ≤ 0 → ∀ x_7 : Int32, x_7 = x7 + 1 → w_X10_greatestGrowth_15 N p1 post n s_4 x2 y3 r_5 x_7) ∧ (¬ ((lg_cmp (r_5 - y5) y3) ≤ 0) → ∀ x_8 : Int64, x_8 = r_5 - y5 → ∀ x_9 : Int32, x_9 = x7 + 1 → w_X10_greatestGrowth_15 N p1 post n s_4 x7 x_8 r_5 x_9)))
def w_X10_greatestGrowth (N : Nat) (p1 : Nat) (s : Sx) (post : Int32 → Sx → Prop) : Prop := p1 < s.2.2 4 ∧ ∀ x_2 : Int64, x_2 = (s.1 3 p1 7).toInt64 → w_X10_greatestGrowth_15 N p1 post N s ((-9)) 0 x_2 0
set_option maxHeartbeats 4000000 in
theorem b_X10_greatestGrowth_15 {X : Kx} {a : Ax} {N : Nat} {p1 : Nat} {post : Int32 → Sx → Prop}  (hC : Cx X cX10_greatestGrowth 10 RX10) (hR : X.R = { frames := 2, cells := 0, slots := 0, locals := 46 }) (hQ : X.Q = MQ X.below (Qi X.G a post) X.av X.s 0 0 (bs_ X.G)) (hr : X.meth.sig.returnType = (some .int))   : ∀ (n : Nat) (s : Sx) (x2 : Int32) (y3 : Int64) (y5 : Int64) (x7 : Int32), w_X10_greatestGrowth_15 N p1 post  n s x2 y3 y5 x7 → wk X a s 10 15 [(0, .ref (adr X.G a 0 14)), (2, .int x2), (3, .long y3), (5, .long y5), (7, .int x7)] [] 0 0 := by
  intro n
  induction n with
  | zero => intro s x2 y3 y5 x7 h; exact h.elim
  | succ n ih =>
    intro s x2 y3 y5 x7 h
    unfold w_X10_greatestGrowth_15 at h
    refine k_iload hC (pc := 15) dX10_greatestGrowth_15 4 rfl ?_
    refine k_iconst hC (pc := 17) (v := 5) dX10_greatestGrowth_17 ic_5 ?_
    refine k_icmp_ge hC (pc := 18) 60 dX10_greatestGrowth_18 (by decide) (fun c_3 => ?_) (fun c_3 => ?_)
    · have h := h.1 c_3
      refine k_iload_n hC (pc := 60) dX10_greatestGrowth_60 1 rfl ?_
      exact k_iret hC (pc := 61) hQ hr dX10_greatestGrowth_61 h
    · have h := h.2 c_3
      refine k_aload_n hC (pc := 21) dX10_greatestGrowth_21 0 rfl ?_
      refine k_iload hC (pc := 22) dX10_greatestGrowth_22 4 rfl ?_
      refine k_lload hC (pc := 24) dX10_greatestGrowth_24 3 rfl ?_
      refine k_cl (rn_V hC (pc := 26) (As := [.int x7, .long y5]) (rest := []) ca_X10_toldOnBy ml_RX10_68 im_X10_toldOnBy se_X10_toldOnBy (fx_in f0_14) (ob0_14 _ _ _ _ _) rfl rfl (ct_X10_toldOnBy x7 y5 h) (by rw [hR]; exact ⟨rfl, rfl, by decide, by decide⟩) rfl (Nat.le_of_ble_eq_true rfl) dX10_greatestGrowth_26 ⟨by rw [hR]; decide, by rw [hR]; decide⟩) (fun r_5 s_4 h => ?_)
      refine k_lstore hC (pc := 29) dX10_greatestGrowth_29 [(8, .long r_5), (0, .ref (adr X.G a 0 14)), (2, .int x2), (3, .long y3), (5, .long y5), (7, .int x7)] (by decide) rfl ?_
      refine k_lload hC (pc := 31) dX10_greatestGrowth_31 0 rfl ?_
      refine k_lload hC (pc := 33) dX10_greatestGrowth_33 4 rfl ?_
      refine k_lsub hC (pc := 35) dX10_greatestGrowth_35 ?_
      refine k_lload_n hC (pc := 36) dX10_greatestGrowth_36 3 rfl ?_
      refine k_lcmp hC (pc := 37) dX10_greatestGrowth_37 ?_
      refine k_if_le hC (pc := 38) 50 dX10_greatestGrowth_38 (by decide) (fun c_6 => ?_) (fun c_6 => ?_)
      · have h := h.1 c_6
        refine k_lload hC (pc := 50) dX10_greatestGrowth_50 0 rfl ?_
        refine k_lstore hC (pc := 52) dX10_greatestGrowth_52 [(5, .long r_5), (8, .long r_5), (0, .ref (adr X.G a 0 14)), (2, .int x2), (3, .long y3), (7, .int x7)] (by decide) rfl ?_
        obtain ⟨x_7, h_x_7⟩ : ∃ z : Int32, z = x7 + 1 := ⟨_, rfl⟩
        have h := h x_7 h_x_7
        refine k_iincw hC (pc := 54) dX10_greatestGrowth_54 5 rfl ic_1 h_x_7.symm [(7, .int x_7), (5, .long r_5), (8, .long r_5), (0, .ref (adr X.G a 0 14)), (2, .int x2), (3, .long y3)] (by decide) rfl ?_
        refine k_goto hC (pc := 57) 15 dX10_greatestGrowth_57 (by decide) ?_
        refine k_sub [(0, .ref (adr X.G a 0 14)), (2, .int x2), (3, .long y3), (5, .long r_5), (7, .int x_7)] [3, 4, 5, 1, 0] rfl ?_
        exact ih _ _ _ _ _ h
      · have h := h.2 c_6
        refine k_lload hC (pc := 41) dX10_greatestGrowth_41 0 rfl ?_
        refine k_lload hC (pc := 43) dX10_greatestGrowth_43 4 rfl ?_
        refine k_lsub hC (pc := 45) dX10_greatestGrowth_45 ?_
        refine k_topl (fun x_8 h_x_8 => ?_)
        have h := h x_8 h_x_8
        refine k_lstore_n hC (pc := 46) dX10_greatestGrowth_46 [(3, .long x_8), (8, .long r_5), (0, .ref (adr X.G a 0 14)), (2, .int x2), (5, .long y5), (7, .int x7)] (by decide) rfl ?_
        refine k_iload hC (pc := 47) dX10_greatestGrowth_47 5 rfl ?_
        refine k_istore_n hC (pc := 49) dX10_greatestGrowth_49 [(2, .int x7), (3, .long x_8), (8, .long r_5), (0, .ref (adr X.G a 0 14)), (5, .long y5), (7, .int x7)] (by decide) rfl ?_
        refine k_lload hC (pc := 50) dX10_greatestGrowth_50 2 rfl ?_
        refine k_lstore hC (pc := 52) dX10_greatestGrowth_52 [(5, .long r_5), (2, .int x7), (3, .long x_8), (8, .long r_5), (0, .ref (adr X.G a 0 14)), (7, .int x7)] (by decide) rfl ?_
        obtain ⟨x_9, h_x_9⟩ : ∃ z : Int32, z = x7 + 1 := ⟨_, rfl⟩
        have h := h x_9 h_x_9
        refine k_iincw hC (pc := 54) dX10_greatestGrowth_54 5 rfl ic_1 h_x_9.symm [(7, .int x_9), (5, .long r_5), (2, .int x7), (3, .long x_8), (8, .long r_5), (0, .ref (adr X.G a 0 14))] (by decide) rfl ?_
        refine k_goto hC (pc := 57) 15 dX10_greatestGrowth_57 (by decide) ?_
        refine k_sub [(0, .ref (adr X.G a 0 14)), (2, .int x7), (3, .long x_8), (5, .long r_5), (7, .int x_9)] [5, 2, 3, 1, 0] rfl ?_
        exact ih _ _ _ _ _ h
set_option maxHeartbeats 4000000 in
theorem b_X10_greatestGrowth {X : Kx} {a : Ax} {N : Nat} {post : Int32 → Sx → Prop} (hC : Cx X cX10_greatestGrowth 10 RX10) (hR : X.R = { frames := 2, cells := 0, slots := 0, locals := 46 }) (hQ : X.Q = MQ X.below (Qi X.G a post) X.av X.s 0 0 (bs_ X.G)) (hr : X.meth.sig.returnType = (some .int)) (hn : X.meth.name = "greatestGrowth") (s : Sx) (p1 : Nat) (h : w_X10_greatestGrowth N p1 s post) : wk X a s 10 0 [(0, .ref (adr X.G a 0 14)), (1, .ref (adr X.G a 3 p1))] [] 0 0 := by
  unfold w_X10_greatestGrowth at h
  refine k_bipush hC (pc := 0) (v := (-9)) dX10_greatestGrowth_0 bp_m9 ?_
  refine k_istore_n hC (pc := 2) dX10_greatestGrowth_2 [(2, .int ((-9))), (0, .ref (adr X.G a 0 14)), (1, .ref (adr X.G a 3 p1))] (by decide) rfl ?_
  refine k_lconst hC (pc := 3) (v := 0) dX10_greatestGrowth_3 rfl ?_
  refine k_lstore_n hC (pc := 4) dX10_greatestGrowth_4 [(3, .long 0), (2, .int ((-9))), (0, .ref (adr X.G a 0 14)), (1, .ref (adr X.G a 3 p1))] (by decide) rfl ?_
  refine k_aload_n hC (pc := 5) dX10_greatestGrowth_5 3 rfl ?_
  obtain ⟨c_1, h⟩ := h
  refine gf_X9_7 hC (pc := 6) c_1 fl_RX10_65 dX10_greatestGrowth_6 ?_
  refine k_i2l hC (pc := 9) dX10_greatestGrowth_9 ?_
  refine k_topl (fun x_2 h_x_2 => ?_)
  have h := h x_2 h_x_2
  refine k_lstore hC (pc := 10) dX10_greatestGrowth_10 [(5, .long x_2), (3, .long 0), (2, .int ((-9))), (0, .ref (adr X.G a 0 14)), (1, .ref (adr X.G a 3 p1))] (by decide) rfl ?_
  refine k_iconst hC (pc := 12) (v := 0) dX10_greatestGrowth_12 ic_0 ?_
  refine k_istore hC (pc := 13) dX10_greatestGrowth_13 [(7, .int 0), (5, .long x_2), (3, .long 0), (2, .int ((-9))), (0, .ref (adr X.G a 0 14)), (1, .ref (adr X.G a 3 p1))] (by decide) rfl ?_
  refine k_sub [(0, .ref (adr X.G a 0 14)), (2, .int ((-9))), (3, .long 0), (5, .long x_2), (7, .int 0)] [4, 3, 2, 1, 0] rfl ?_
  exact b_X10_greatestGrowth_15 hC hR hQ hr N _ _ _ _ _ h
theorem ct_X10_greatestGrowth {l : Launch} {G : Gx} {a : Ax} {s : Sx} {N : Nat} {post : Int32 → Sx → Prop} (p1 : Nat) (h : w_X10_greatestGrowth N p1 s post) : Met l yX10_greatestGrowth (Cond.code yX10_greatestGrowth cX10_greatestGrowth 10 (some .int) :: gw) { frames := 2, cells := 0, slots := 0, locals := 46 } (va_Pc [.ref (adr G a 0 14), .ref (adr G a 3 p1)] (fun U => FU G a s U)) (Qi G a post) 0 0 (bs_ G) := met_of (plainFor_of_name (by decide)) (Nat.le_of_ble_eq_true rfl) rfl (fun X hC hl hR hQ hr hG hn => by subst hG; exact b_X10_greatestGrowth hC hR hQ hr hn s p1 h)
theorem ca_X10_greatestGrowth : Ca yX10_greatestGrowth cX10_greatestGrowth 10 (some .int) 1 := ⟨cd_X10_greatestGrowth, ii_RX10, by decide, by decide, by decide +kernel⟩
def w_X11_isSpot (N : Nat) (x0 : Int32) (x1 : Int32) (s : Sx) (post : Int32 → Sx → Prop) : Prop := w_X11_isWithin N x0 0 40 s (fun r_2 s_1 => (r_2 = 0 → post 0 s_1) ∧ (¬ (r_2 = 0) → w_X11_isWithin N x1 0 40 s_1 (fun r_5 s_4 => (r_5 = 0 → post 0 s_4) ∧ (¬ (r_5 = 0) → post 1 s_4))))
set_option maxHeartbeats 4000000 in
theorem b_X11_isSpot {X : Kx} {a : Ax} {N : Nat} {post : Int32 → Sx → Prop} (hC : Cx X cX11_isSpot 2 RX11) (hR : X.R = { frames := 1, cells := 0, slots := 0, locals := 22 }) (hQ : X.Q = MQ X.below (Qi X.G a post) X.av X.s 0 0 (bs_ X.G)) (hr : X.meth.sig.returnType = (some .boolean)) (hn : X.meth.name = "isSpot") (s : Sx) (x0 : Int32) (x1 : Int32) (h : w_X11_isSpot N x0 x1 s post) : wk X a s 2 0 [(0, .int x0), (1, .int x1)] [] 0 0 := by
  unfold w_X11_isSpot at h
  refine k_iload_n hC (pc := 0) dX11_isSpot_0 0 rfl ?_
  refine k_iconst hC (pc := 1) (v := 0) dX11_isSpot_1 ic_0 ?_
  refine k_bipush hC (pc := 2) (v := 40) dX11_isSpot_2 bp_40 ?_
  refine k_ci (rn_S hC (pc := 4) (As := [.int x0, .int 0, .int 40]) (rest := []) ca_X11_isWithin ml_RX11_80 sm_X11_isWithin (ct_X11_isWithin x0 0 40 h) (by rw [hR]; exact ⟨rfl, rfl, by decide, by decide⟩) rfl (Nat.le_of_ble_eq_true rfl) dX11_isSpot_4 ⟨by rw [hR]; decide, by rw [hR]; decide⟩) (fun r_2 s_1 h => ?_)
  refine k_if_eq hC (pc := 7) 24 dX11_isSpot_7 (by decide) (fun c_3 => ?_) (fun c_3 => ?_)
  · have h := h.1 c_3
    refine k_iconst hC (pc := 24) (v := 0) dX11_isSpot_24 ic_0 ?_
    exact k_zret hC (pc := 25) hQ hr dX11_isSpot_25 (Or.inl rfl) h
  · have h := h.2 c_3
    refine k_iload_n hC (pc := 10) dX11_isSpot_10 1 rfl ?_
    refine k_iconst hC (pc := 11) (v := 0) dX11_isSpot_11 ic_0 ?_
    refine k_bipush hC (pc := 12) (v := 40) dX11_isSpot_12 bp_40 ?_
    refine k_ci (rn_S hC (pc := 14) (As := [.int x1, .int 0, .int 40]) (rest := []) ca_X11_isWithin ml_RX11_80 sm_X11_isWithin (ct_X11_isWithin x1 0 40 h) (by rw [hR]; exact ⟨rfl, rfl, by decide, by decide⟩) rfl (Nat.le_of_ble_eq_true rfl) dX11_isSpot_14 ⟨by rw [hR]; decide, by rw [hR]; decide⟩) (fun r_5 s_4 h => ?_)
    refine k_if_eq hC (pc := 17) 24 dX11_isSpot_17 (by decide) (fun c_6 => ?_) (fun c_6 => ?_)
    · have h := h.1 c_6
      refine k_iconst hC (pc := 24) (v := 0) dX11_isSpot_24 ic_0 ?_
      exact k_zret hC (pc := 25) hQ hr dX11_isSpot_25 (Or.inl rfl) h
    · have h := h.2 c_6
      refine k_iconst hC (pc := 20) (v := 1) dX11_isSpot_20 ic_1 ?_
      refine k_goto hC (pc := 21) 25 dX11_isSpot_21 (by decide) ?_
      exact k_zret hC (pc := 25) hQ hr dX11_isSpot_25 (Or.inr rfl) h
theorem ct_X11_isSpot {l : Launch} {G : Gx} {a : Ax} {s : Sx} {N : Nat} {post : Int32 → Sx → Prop} (x0 : Int32) (x1 : Int32) (h : w_X11_isSpot N x0 x1 s post) : Met l yX11_isSpot (Cond.code yX11_isSpot cX11_isSpot 2 (some .boolean) :: gw) { frames := 1, cells := 0, slots := 0, locals := 22 } (va_Pc [.int x0, .int x1] (fun U => FU G a s U)) (Qi G a post) 0 0 (bs_ G) := met_of (plainFor_of_name (by decide)) (Nat.le_of_ble_eq_true rfl) rfl (fun X hC hl hR hQ hr hG hn => by subst hG; exact b_X11_isSpot hC hR hQ hr hn s x0 x1 h)
theorem ca_X11_isSpot : Ca yX11_isSpot cX11_isSpot 2 (some .boolean) 2 := ⟨cd_X11_isSpot, ii_RX11, by decide, by decide, by decide +kernel⟩
def w_X11_camp (N : Nat) (x1 : Int32) (x2 : Int32) (x3 : Int32) (s : Sx) (post : Int32 → Sx → Prop) : Prop := w_X11_isSpot N x1 x2 s (fun r_2 s_1 => (r_2 = 0 → post ((-2)) s_1) ∧ (¬ (r_2 = 0) → w_X11_isWithin N x3 1 9 s_1 (fun r_5 s_4 => (¬ r_5 = 0 → w_X0_add N x1 x2 x3 s_4 (fun r_8 s_7 => post r_8 s_7)) ∧ (¬ (¬ r_5 = 0) → post ((-2)) s_4))))
set_option maxHeartbeats 4000000 in
theorem b_X11_camp {X : Kx} {a : Ax} {N : Nat} {post : Int32 → Sx → Prop} (hC : Cx X cX11_camp 4 RX11) (hR : X.R = { frames := 2, cells := 0, slots := 0, locals := 43 }) (hQ : X.Q = MQ X.below (Qi X.G a post) X.av X.s 0 0 (bs_ X.G)) (hr : X.meth.sig.returnType = (some .int)) (hn : X.meth.name = "camp") (s : Sx) (x1 : Int32) (x2 : Int32) (x3 : Int32) (h : w_X11_camp N x1 x2 x3 s post) : wk X a s 4 0 [(0, .ref (adr X.G a 0 0)), (1, .int x1), (2, .int x2), (3, .int x3)] [] 0 0 := by
  unfold w_X11_camp at h
  refine k_iload_n hC (pc := 0) dX11_camp_0 1 rfl ?_
  refine k_iload_n hC (pc := 1) dX11_camp_1 2 rfl ?_
  refine k_ci (rn_S hC (pc := 2) (As := [.int x1, .int x2]) (rest := []) ca_X11_isSpot ml_RX11_76 sm_X11_isSpot (ct_X11_isSpot x1 x2 h) (by rw [hR]; exact ⟨rfl, rfl, by decide, by decide⟩) rfl (Nat.le_of_ble_eq_true rfl) dX11_camp_2 ⟨by rw [hR]; decide, by rw [hR]; decide⟩) (fun r_2 s_1 h => ?_)
  refine k_if_eq hC (pc := 5) 18 dX11_camp_5 (by decide) (fun c_3 => ?_) (fun c_3 => ?_)
  · have h := h.1 c_3
    refine k_bipush hC (pc := 18) (v := (-2)) dX11_camp_18 bp_m2 ?_
    exact k_iret hC (pc := 20) hQ hr dX11_camp_20 h
  · have h := h.2 c_3
    refine k_iload_n hC (pc := 8) dX11_camp_8 3 rfl ?_
    refine k_iconst hC (pc := 9) (v := 1) dX11_camp_9 ic_1 ?_
    refine k_bipush hC (pc := 10) (v := 9) dX11_camp_10 bp_9 ?_
    refine k_ci (rn_S hC (pc := 12) (As := [.int x3, .int 1, .int 9]) (rest := []) ca_X11_isWithin ml_RX11_80 sm_X11_isWithin (ct_X11_isWithin x3 1 9 h) (by rw [hR]; exact ⟨rfl, rfl, by decide, by decide⟩) rfl (Nat.le_of_ble_eq_true rfl) dX11_camp_12 ⟨by rw [hR]; decide, by rw [hR]; decide⟩) (fun r_5 s_4 h => ?_)
    refine k_if_ne hC (pc := 15) 21 dX11_camp_15 (by decide) (fun c_6 => ?_) (fun c_6 => ?_)
    · have h := h.1 c_6
      refine k_aload_n hC (pc := 21) dX11_camp_21 0 rfl ?_
      refine gf_X11_0 hC (pc := 22)  fl_RX11_12 dX11_camp_22 ?_
      refine k_iload_n hC (pc := 25) dX11_camp_25 1 rfl ?_
      refine k_iload_n hC (pc := 26) dX11_camp_26 2 rfl ?_
      refine k_iload_n hC (pc := 27) dX11_camp_27 3 rfl ?_
      refine k_ci (rn_V hC (pc := 28) (As := [.int x1, .int x2, .int x3]) (rest := []) ca_X0_add ml_RX11_84 im_X0_add se_X0_add (fx_in f0_1) (ob0_1 _ _ _ _ _) rfl rfl (ct_X0_add x1 x2 x3 h) (by rw [hR]; exact ⟨rfl, rfl, by decide, by decide⟩) rfl (Nat.le_of_ble_eq_true rfl) dX11_camp_28 ⟨by rw [hR]; decide, by rw [hR]; decide⟩) (fun r_8 s_7 h => ?_)
      exact k_iret hC (pc := 31) hQ hr dX11_camp_31 h
    · have h := h.2 c_6
      refine k_bipush hC (pc := 18) (v := (-2)) dX11_camp_18 bp_m2 ?_
      exact k_iret hC (pc := 20) hQ hr dX11_camp_20 h
theorem ct_X11_camp {l : Launch} {G : Gx} {a : Ax} {s : Sx} {N : Nat} {post : Int32 → Sx → Prop} (x1 : Int32) (x2 : Int32) (x3 : Int32) (h : w_X11_camp N x1 x2 x3 s post) : Met l yX11_camp (Cond.code yX11_camp cX11_camp 4 (some .int) :: gw) { frames := 2, cells := 0, slots := 0, locals := 43 } (va_Pc [.ref (adr G a 0 0), .int x1, .int x2, .int x3] (fun U => FU G a s U)) (Qi G a post) 0 0 (bs_ G) := met_of (plainFor_of_name (by decide)) (Nat.le_of_ble_eq_true rfl) rfl (fun X hC hl hR hQ hr hG hn => by subst hG; exact b_X11_camp hC hR hQ hr hn s x1 x2 x3 h)
theorem ca_X11_camp : Ca yX11_camp cX11_camp 4 (some .int) 3 := ⟨cd_X11_camp, ii_RX11, by decide, by decide, by decide +kernel⟩
def w_X11_man (N : Nat) (s : Sx) (post : Int32 → Sx → Prop) : Prop := ((s.1 0 0 1) < 20 → ∀ s_2, s_2 = setI s 0 0 1 ((s.1 0 0 1) + 1) → post ((s_2.1 0 0 1) - 1) s_2) ∧ (¬ ((s.1 0 0 1) < 20) → post ((-4)) s)
set_option maxHeartbeats 4000000 in
theorem b_X11_man {X : Kx} {a : Ax} {N : Nat} {post : Int32 → Sx → Prop} (hC : Cx X cX11_man 1 RX11) (hR : X.R = { frames := 0, cells := 0, slots := 0, locals := 0 }) (hQ : X.Q = MQ X.below (Qi X.G a post) X.av X.s 0 0 (bs_ X.G)) (hr : X.meth.sig.returnType = (some .int)) (hn : X.meth.name = "man") (s : Sx) (h : w_X11_man N s post) : wk X a s 1 0 [(0, .ref (adr X.G a 0 0))] [] 0 0 := by
  unfold w_X11_man at h
  refine k_aload_n hC (pc := 0) dX11_man_0 0 rfl ?_
  refine gf_X11_1 hC (pc := 1)  fl_RX11_88 dX11_man_1 ?_
  refine k_bipush hC (pc := 4) (v := 20) dX11_man_4 bp_20 ?_
  refine k_icmp_lt hC (pc := 6) 12 dX11_man_6 (by decide) (fun c_1 => ?_) (fun c_1 => ?_)
  · have h := h.1 c_1
    refine k_aload_n hC (pc := 12) dX11_man_12 0 rfl ?_
    refine k_dup hC (pc := 13) dX11_man_13 rfl ?_
    refine gf_X11_1 hC (pc := 14)  fl_RX11_88 dX11_man_14 ?_
    refine k_iconst hC (pc := 17) (v := 1) dX11_man_17 ic_1 ?_
    refine k_iadd hC (pc := 18) dX11_man_18 ?_
    refine pf_X11_1 hC (pc := 19)  fl_RX11_88 dX11_man_19 (fun s_2 h_s_2 => ?_)
    have h := h s_2 h_s_2
    refine k_aload_n hC (pc := 22) dX11_man_22 0 rfl ?_
    refine gf_X11_1 hC (pc := 23)  fl_RX11_88 dX11_man_23 ?_
    refine k_iconst hC (pc := 26) (v := 1) dX11_man_26 ic_1 ?_
    refine k_isub hC (pc := 27) dX11_man_27 ?_
    exact k_iret hC (pc := 28) hQ hr dX11_man_28 h
  · have h := h.2 c_1
    refine k_bipush hC (pc := 9) (v := (-4)) dX11_man_9 bp_m4 ?_
    exact k_iret hC (pc := 11) hQ hr dX11_man_11 h
theorem ct_X11_man {l : Launch} {G : Gx} {a : Ax} {s : Sx} {N : Nat} {post : Int32 → Sx → Prop} (h : w_X11_man N s post) : Met l yX11_man (Cond.code yX11_man cX11_man 1 (some .int) :: gw) { frames := 0, cells := 0, slots := 0, locals := 0 } (va_Pc [.ref (adr G a 0 0)] (fun U => FU G a s U)) (Qi G a post) 0 0 (bs_ G) := met_of (plainFor_of_name (by decide)) (Nat.le_of_ble_eq_true rfl) rfl (fun X hC hl hR hQ hr hG hn => by subst hG; exact b_X11_man hC hR hQ hr hn s h)
theorem ca_X11_man : Ca yX11_man cX11_man 1 (some .int) 0 := ⟨cd_X11_man, ii_RX11, by decide, by decide, by decide +kernel⟩
def w_X11_isMan (N : Nat) (x1 : Int32) (s : Sx) (post : Int32 → Sx → Prop) : Prop := w_X11_isWithin N x1 0 ((s.1 0 0 1) - 1) s (fun r_2 s_1 => (r_2 = 0 ∨ r_2 = 1) ∧ post r_2 s_1)
set_option maxHeartbeats 4000000 in
theorem b_X11_isMan {X : Kx} {a : Ax} {N : Nat} {post : Int32 → Sx → Prop} (hC : Cx X cX11_isMan 2 RX11) (hR : X.R = { frames := 1, cells := 0, slots := 0, locals := 22 }) (hQ : X.Q = MQ X.below (Qi X.G a post) X.av X.s 0 0 (bs_ X.G)) (hr : X.meth.sig.returnType = (some .boolean)) (hn : X.meth.name = "isMan") (s : Sx) (x1 : Int32) (h : w_X11_isMan N x1 s post) : wk X a s 2 0 [(0, .ref (adr X.G a 0 0)), (1, .int x1)] [] 0 0 := by
  unfold w_X11_isMan at h
  refine k_iload_n hC (pc := 0) dX11_isMan_0 1 rfl ?_
  refine k_iconst hC (pc := 1) (v := 0) dX11_isMan_1 ic_0 ?_
  refine k_aload_n hC (pc := 2) dX11_isMan_2 0 rfl ?_
  refine gf_X11_1 hC (pc := 3)  fl_RX11_88 dX11_isMan_3 ?_
  refine k_iconst hC (pc := 6) (v := 1) dX11_isMan_6 ic_1 ?_
  refine k_isub hC (pc := 7) dX11_isMan_7 ?_
  refine k_ci (rn_S hC (pc := 8) (As := [.int x1, .int 0, .int ((s.1 0 0 1) - 1)]) (rest := []) ca_X11_isWithin ml_RX11_80 sm_X11_isWithin (ct_X11_isWithin x1 0 ((s.1 0 0 1) - 1) h) (by rw [hR]; exact ⟨rfl, rfl, by decide, by decide⟩) rfl (Nat.le_of_ble_eq_true rfl) dX11_isMan_8 ⟨by rw [hR]; decide, by rw [hR]; decide⟩) (fun r_2 s_1 h => ?_)
  obtain ⟨c_3, h⟩ := h
  exact k_zret hC (pc := 11) hQ hr dX11_isMan_11 c_3 h
theorem ct_X11_isMan {l : Launch} {G : Gx} {a : Ax} {s : Sx} {N : Nat} {post : Int32 → Sx → Prop} (x1 : Int32) (h : w_X11_isMan N x1 s post) : Met l yX11_isMan (Cond.code yX11_isMan cX11_isMan 2 (some .boolean) :: gw) { frames := 1, cells := 0, slots := 0, locals := 22 } (va_Pc [.ref (adr G a 0 0), .int x1] (fun U => FU G a s U)) (Qi G a post) 0 0 (bs_ G) := met_of (plainFor_of_name (by decide)) (Nat.le_of_ble_eq_true rfl) rfl (fun X hC hl hR hQ hr hG hn => by subst hG; exact b_X11_isMan hC hR hQ hr hn s x1 h)
theorem ca_X11_isMan : Ca yX11_isMan cX11_isMan 2 (some .boolean) 1 := ⟨cd_X11_isMan, ii_RX11, by decide, by decide, by decide +kernel⟩
def w_X11_isKind (N : Nat) (x0 : Int32) (s : Sx) (post : Int32 → Sx → Prop) : Prop := w_X11_isWithin N x0 0 2 s (fun r_2 s_1 => (r_2 = 0 ∨ r_2 = 1) ∧ post r_2 s_1)
set_option maxHeartbeats 4000000 in
theorem b_X11_isKind {X : Kx} {a : Ax} {N : Nat} {post : Int32 → Sx → Prop} (hC : Cx X cX11_isKind 1 RX11) (hR : X.R = { frames := 1, cells := 0, slots := 0, locals := 22 }) (hQ : X.Q = MQ X.below (Qi X.G a post) X.av X.s 0 0 (bs_ X.G)) (hr : X.meth.sig.returnType = (some .boolean)) (hn : X.meth.name = "isKind") (s : Sx) (x0 : Int32) (h : w_X11_isKind N x0 s post) : wk X a s 1 0 [(0, .int x0)] [] 0 0 := by
  unfold w_X11_isKind at h
  refine k_iload_n hC (pc := 0) dX11_isKind_0 0 rfl ?_
  refine k_iconst hC (pc := 1) (v := 0) dX11_isKind_1 ic_0 ?_
  refine k_iconst hC (pc := 2) (v := 2) dX11_isKind_2 ic_2 ?_
  refine k_ci (rn_S hC (pc := 3) (As := [.int x0, .int 0, .int 2]) (rest := []) ca_X11_isWithin ml_RX11_80 sm_X11_isWithin (ct_X11_isWithin x0 0 2 h) (by rw [hR]; exact ⟨rfl, rfl, by decide, by decide⟩) rfl (Nat.le_of_ble_eq_true rfl) dX11_isKind_3 ⟨by rw [hR]; decide, by rw [hR]; decide⟩) (fun r_2 s_1 h => ?_)
  obtain ⟨c_3, h⟩ := h
  exact k_zret hC (pc := 6) hQ hr dX11_isKind_6 c_3 h
theorem ct_X11_isKind {l : Launch} {G : Gx} {a : Ax} {s : Sx} {N : Nat} {post : Int32 → Sx → Prop} (x0 : Int32) (h : w_X11_isKind N x0 s post) : Met l yX11_isKind (Cond.code yX11_isKind cX11_isKind 1 (some .boolean) :: gw) { frames := 1, cells := 0, slots := 0, locals := 22 } (va_Pc [.int x0] (fun U => FU G a s U)) (Qi G a post) 0 0 (bs_ G) := met_of (plainFor_of_name (by decide)) (Nat.le_of_ble_eq_true rfl) rfl (fun X hC hl hR hQ hr hG hn => by subst hG; exact b_X11_isKind hC hR hQ hr hn s x0 h)
theorem ca_X11_isKind : Ca yX11_isKind cX11_isKind 1 (some .boolean) 1 := ⟨cd_X11_isKind, ii_RX11, by decide, by decide, by decide +kernel⟩
def w_X11_isDay (N : Nat) (x0 : Int32) (s : Sx) (post : Int32 → Sx → Prop) : Prop := w_X11_isWithin N x0 0 399 s (fun r_2 s_1 => (r_2 = 0 ∨ r_2 = 1) ∧ post r_2 s_1)
set_option maxHeartbeats 4000000 in
theorem b_X11_isDay {X : Kx} {a : Ax} {N : Nat} {post : Int32 → Sx → Prop} (hC : Cx X cX11_isDay 1 RX11) (hR : X.R = { frames := 1, cells := 0, slots := 0, locals := 22 }) (hQ : X.Q = MQ X.below (Qi X.G a post) X.av X.s 0 0 (bs_ X.G)) (hr : X.meth.sig.returnType = (some .boolean)) (hn : X.meth.name = "isDay") (s : Sx) (x0 : Int32) (h : w_X11_isDay N x0 s post) : wk X a s 1 0 [(0, .int x0)] [] 0 0 := by
  unfold w_X11_isDay at h
  refine k_iload_n hC (pc := 0) dX11_isDay_0 0 rfl ?_
  refine k_iconst hC (pc := 1) (v := 0) dX11_isDay_1 ic_0 ?_
  refine k_sipush hC (pc := 2) (v := 399) dX11_isDay_2 sp_399 ?_
  refine k_ci (rn_S hC (pc := 5) (As := [.int x0, .int 0, .int 399]) (rest := []) ca_X11_isWithin ml_RX11_80 sm_X11_isWithin (ct_X11_isWithin x0 0 399 h) (by rw [hR]; exact ⟨rfl, rfl, by decide, by decide⟩) rfl (Nat.le_of_ble_eq_true rfl) dX11_isDay_5 ⟨by rw [hR]; decide, by rw [hR]; decide⟩) (fun r_2 s_1 h => ?_)
  obtain ⟨c_3, h⟩ := h
  exact k_zret hC (pc := 8) hQ hr dX11_isDay_8 c_3 h
theorem ct_X11_isDay {l : Launch} {G : Gx} {a : Ax} {s : Sx} {N : Nat} {post : Int32 → Sx → Prop} (x0 : Int32) (h : w_X11_isDay N x0 s post) : Met l yX11_isDay (Cond.code yX11_isDay cX11_isDay 1 (some .boolean) :: gw) { frames := 1, cells := 0, slots := 0, locals := 22 } (va_Pc [.int x0] (fun U => FU G a s U)) (Qi G a post) 0 0 (bs_ G) := met_of (plainFor_of_name (by decide)) (Nat.le_of_ble_eq_true rfl) rfl (fun X hC hl hR hQ hr hG hn => by subst hG; exact b_X11_isDay hC hR hQ hr hn s x0 h)
theorem ca_X11_isDay : Ca yX11_isDay cX11_isDay 1 (some .boolean) 1 := ⟨cd_X11_isDay, ii_RX11, by decide, by decide, by decide +kernel⟩
def w_X11_areDays (N : Nat) (x0 : Int32) (x1 : Int32) (s : Sx) (post : Int32 → Sx → Prop) : Prop := w_X11_isDay N x0 s (fun r_2 s_1 => (r_2 = 0 → post 0 s_1) ∧ (¬ (r_2 = 0) → w_X11_isDay N x1 s_1 (fun r_5 s_4 => (r_5 = 0 → post 0 s_4) ∧ (¬ (r_5 = 0) → (x1 < x0 → post 0 s_4) ∧ (¬ (x1 < x0) → post 1 s_4)))))
set_option maxHeartbeats 4000000 in
theorem b_X11_areDays {X : Kx} {a : Ax} {N : Nat} {post : Int32 → Sx → Prop} (hC : Cx X cX11_areDays 2 RX11) (hR : X.R = { frames := 2, cells := 0, slots := 0, locals := 42 }) (hQ : X.Q = MQ X.below (Qi X.G a post) X.av X.s 0 0 (bs_ X.G)) (hr : X.meth.sig.returnType = (some .boolean)) (hn : X.meth.name = "areDays") (s : Sx) (x0 : Int32) (x1 : Int32) (h : w_X11_areDays N x0 x1 s post) : wk X a s 2 0 [(0, .int x0), (1, .int x1)] [] 0 0 := by
  unfold w_X11_areDays at h
  refine k_iload_n hC (pc := 0) dX11_areDays_0 0 rfl ?_
  refine k_ci (rn_S hC (pc := 1) (As := [.int x0]) (rest := []) ca_X11_isDay ml_RX11_114 sm_X11_isDay (ct_X11_isDay x0 h) (by rw [hR]; exact ⟨rfl, rfl, by decide, by decide⟩) rfl (Nat.le_of_ble_eq_true rfl) dX11_areDays_1 ⟨by rw [hR]; decide, by rw [hR]; decide⟩) (fun r_2 s_1 h => ?_)
  refine k_if_eq hC (pc := 4) 23 dX11_areDays_4 (by decide) (fun c_3 => ?_) (fun c_3 => ?_)
  · have h := h.1 c_3
    refine k_iconst hC (pc := 23) (v := 0) dX11_areDays_23 ic_0 ?_
    exact k_zret hC (pc := 24) hQ hr dX11_areDays_24 (Or.inl rfl) h
  · have h := h.2 c_3
    refine k_iload_n hC (pc := 7) dX11_areDays_7 1 rfl ?_
    refine k_ci (rn_S hC (pc := 8) (As := [.int x1]) (rest := []) ca_X11_isDay ml_RX11_114 sm_X11_isDay (ct_X11_isDay x1 h) (by rw [hR]; exact ⟨rfl, rfl, by decide, by decide⟩) rfl (Nat.le_of_ble_eq_true rfl) dX11_areDays_8 ⟨by rw [hR]; decide, by rw [hR]; decide⟩) (fun r_5 s_4 h => ?_)
    refine k_if_eq hC (pc := 11) 23 dX11_areDays_11 (by decide) (fun c_6 => ?_) (fun c_6 => ?_)
    · have h := h.1 c_6
      refine k_iconst hC (pc := 23) (v := 0) dX11_areDays_23 ic_0 ?_
      exact k_zret hC (pc := 24) hQ hr dX11_areDays_24 (Or.inl rfl) h
    · have h := h.2 c_6
      refine k_iload_n hC (pc := 14) dX11_areDays_14 0 rfl ?_
      refine k_iload_n hC (pc := 15) dX11_areDays_15 1 rfl ?_
      refine k_icmp_gt hC (pc := 16) 23 dX11_areDays_16 (by decide) (fun c_7 => ?_) (fun c_7 => ?_)
      · have h := h.1 c_7
        refine k_iconst hC (pc := 23) (v := 0) dX11_areDays_23 ic_0 ?_
        exact k_zret hC (pc := 24) hQ hr dX11_areDays_24 (Or.inl rfl) h
      · have h := h.2 c_7
        refine k_iconst hC (pc := 19) (v := 1) dX11_areDays_19 ic_1 ?_
        refine k_goto hC (pc := 20) 24 dX11_areDays_20 (by decide) ?_
        exact k_zret hC (pc := 24) hQ hr dX11_areDays_24 (Or.inr rfl) h
theorem ct_X11_areDays {l : Launch} {G : Gx} {a : Ax} {s : Sx} {N : Nat} {post : Int32 → Sx → Prop} (x0 : Int32) (x1 : Int32) (h : w_X11_areDays N x0 x1 s post) : Met l yX11_areDays (Cond.code yX11_areDays cX11_areDays 2 (some .boolean) :: gw) { frames := 2, cells := 0, slots := 0, locals := 42 } (va_Pc [.int x0, .int x1] (fun U => FU G a s U)) (Qi G a post) 0 0 (bs_ G) := met_of (plainFor_of_name (by decide)) (Nat.le_of_ble_eq_true rfl) rfl (fun X hC hl hR hQ hr hG hn => by subst hG; exact b_X11_areDays hC hR hQ hr hn s x0 x1 h)
theorem ca_X11_areDays : Ca yX11_areDays cX11_areDays 2 (some .boolean) 2 := ⟨cd_X11_areDays, ii_RX11, by decide, by decide, by decide +kernel⟩
def w_X11_daysOnPosts_17 (N : Nat) (post : Int32 → Sx → Prop) : Nat → Sx → Int32 → Int32 → Int32 → Int32 → Int32 → Int32 → Prop
  | 0, _, _, _, _, _, _, _ => False
  | n + 1, s, x1, x2, x3, x4, x6, x7 => (x6 ≤ x7 → post x4 s) ∧ (¬ (x6 ≤ x7) → vp_in x7 30 ∧ (¬ x7.toNatClampNeg < s.2.2 1 → ∀ x_4 : Int32, x_4 = x7 + 1 → w_X11_daysOnPosts_17 N post n s x1 x2 x3 x4 x6 x_4) ∧ (x7.toNatClampNeg < s.2.2 1 → x7.toNatClampNeg < s.2.2 0 ∧ (¬ (s.1 1 x7.toNatClampNeg 1) = x1 → ∀ x_7 : Int32, x_7 = x7 + 1 → w_X11_daysOnPosts_17 N post n s x1 x2 x3 x4 x6 x_7) ∧ (¬ (¬ (s.1 1 x7.toNatClampNeg 1) = x1) → x7.toNatClampNeg < s.2.2 0 ∧ w_X6_daysIn N x7.toNatClampNeg x2 x3 s (fun r_9 s_8 => ∀ x_10 : Int32, x_10 = x4 + r_9 → ∀ x_11 : Int32, x_11 = x7 + 1 → w_X11_daysOnPosts_17 N post n s_8 x1 x2 x3 x_10 x6 x_11))))
def w_X11_daysOnPosts (N : Nat) (x1 : Int32) (x2 : Int32) (x3 : Int32) (s : Sx) (post : Int32 → Sx → Prop) : Prop := w_X11_daysOnPosts_17 N post N s x1 x2 x3 0 30 0
set_option maxHeartbeats 4000000 in
theorem b_X11_daysOnPosts_17 {X : Kx} {a : Ax} {N : Nat} {post : Int32 → Sx → Prop}  (hC : Cx X cX11_daysOnPosts 9 RX11) (hR : X.R = { frames := 2, cells := 0, slots := 0, locals := 43 }) (hQ : X.Q = MQ X.below (Qi X.G a post) X.av X.s 0 0 (bs_ X.G)) (hr : X.meth.sig.returnType = (some .int))   : ∀ (n : Nat) (s : Sx) (x1 : Int32) (x2 : Int32) (x3 : Int32) (x4 : Int32) (x6 : Int32) (x7 : Int32), w_X11_daysOnPosts_17 N post  n s x1 x2 x3 x4 x6 x7 → wk X a s 9 17 [(1, .int x1), (2, .int x2), (3, .int x3), (4, .int x4), (5, .ref (adr X.G a 0 6)), (6, .int x6), (7, .int x7)] [] 0 0 := by
  intro n
  induction n with
  | zero => intro s x1 x2 x3 x4 x6 x7 h; exact h.elim
  | succ n ih =>
    intro s x1 x2 x3 x4 x6 x7 h
    unfold w_X11_daysOnPosts_17 at h
    refine k_iload hC (pc := 17) dX11_daysOnPosts_17 6 rfl ?_
    refine k_iload hC (pc := 19) dX11_daysOnPosts_19 5 rfl ?_
    refine k_icmp_ge hC (pc := 21) 63 dX11_daysOnPosts_21 (by decide) (fun c_1 => ?_) (fun c_1 => ?_)
    · have h := h.1 c_1
      refine k_iload hC (pc := 63) dX11_daysOnPosts_63 3 rfl ?_
      exact k_iret hC (pc := 65) hQ hr dX11_daysOnPosts_65 h
    · have h := h.2 c_1
      refine k_aload hC (pc := 24) dX11_daysOnPosts_24 4 rfl ?_
      refine k_iload hC (pc := 26) dX11_daysOnPosts_26 6 rfl ?_
      obtain ⟨c_2, h⟩ := h
      refine r_aldP hC (pc := 28) c_2 dX11_daysOnPosts_28 (fun c_3 => ?_) (fun c_3 => ?_)
      · have h := h.1 c_3
        refine k_astoreN hC (pc := 29) dX11_daysOnPosts_29 [(8, .null), (1, .int x1), (2, .int x2), (3, .int x3), (4, .int x4), (5, .ref (adr X.G a 0 6)), (6, .int x6), (7, .int x7)] (by decide) rfl ?_
        refine k_aloadN hC (pc := 31) dX11_daysOnPosts_31 0 rfl ?_
        refine k_ifnullN hC (pc := 33) 57 dX11_daysOnPosts_33 (by decide) ?_
        obtain ⟨x_4, h_x_4⟩ : ∃ z : Int32, z = x7 + 1 := ⟨_, rfl⟩
        have h := h x_4 h_x_4
        refine k_iincw hC (pc := 57) dX11_daysOnPosts_57 7 rfl ic_1 h_x_4.symm [(7, .int x_4), (8, .null), (1, .int x1), (2, .int x2), (3, .int x3), (4, .int x4), (5, .ref (adr X.G a 0 6)), (6, .int x6)] (by decide) rfl ?_
        refine k_goto hC (pc := 60) 17 dX11_daysOnPosts_60 (by decide) ?_
        refine k_sub [(1, .int x1), (2, .int x2), (3, .int x3), (4, .int x4), (5, .ref (adr X.G a 0 6)), (6, .int x6), (7, .int x_4)] [2, 3, 4, 5, 6, 7, 0] rfl ?_
        exact ih _ _ _ _ _ _ _ h
      · have h := h.2 c_3
        refine k_astore hC (pc := 29) dX11_daysOnPosts_29 [(8, .ref (adr X.G a 1 x7.toNatClampNeg)), (1, .int x1), (2, .int x2), (3, .int x3), (4, .int x4), (5, .ref (adr X.G a 0 6)), (6, .int x6), (7, .int x7)] (by decide) rfl ?_
        refine k_aload hC (pc := 31) dX11_daysOnPosts_31 0 rfl ?_
        refine k_ifnull hC (pc := 33) dX11_daysOnPosts_33 ?_
        refine k_aload hC (pc := 36) dX11_daysOnPosts_36 0 rfl ?_
        obtain ⟨c_5, h⟩ := h
        refine gf_X6_1 hC (pc := 38) c_5 fl_RX11_117 dX11_daysOnPosts_38 ?_
        refine k_iload_n hC (pc := 41) dX11_daysOnPosts_41 1 rfl ?_
        refine k_icmp_ne hC (pc := 42) 57 dX11_daysOnPosts_42 (by decide) (fun c_6 => ?_) (fun c_6 => ?_)
        · have h := h.1 c_6
          obtain ⟨x_7, h_x_7⟩ : ∃ z : Int32, z = x7 + 1 := ⟨_, rfl⟩
          have h := h x_7 h_x_7
          refine k_iincw hC (pc := 57) dX11_daysOnPosts_57 7 rfl ic_1 h_x_7.symm [(7, .int x_7), (8, .ref (adr X.G a 1 x7.toNatClampNeg)), (1, .int x1), (2, .int x2), (3, .int x3), (4, .int x4), (5, .ref (adr X.G a 0 6)), (6, .int x6)] (by decide) rfl ?_
          refine k_goto hC (pc := 60) 17 dX11_daysOnPosts_60 (by decide) ?_
          refine k_sub [(1, .int x1), (2, .int x2), (3, .int x3), (4, .int x4), (5, .ref (adr X.G a 0 6)), (6, .int x6), (7, .int x_7)] [2, 3, 4, 5, 6, 7, 0] rfl ?_
          exact ih _ _ _ _ _ _ _ h
        · have h := h.2 c_6
          refine k_iload hC (pc := 45) dX11_daysOnPosts_45 4 rfl ?_
          refine k_aload hC (pc := 47) dX11_daysOnPosts_47 0 rfl ?_
          refine k_iload_n hC (pc := 49) dX11_daysOnPosts_49 2 rfl ?_
          refine k_iload_n hC (pc := 50) dX11_daysOnPosts_50 3 rfl ?_
          refine k_ci (rn_V hC (pc := 51) (As := [.int x2, .int x3]) (rest := [.int x4]) ca_X6_daysIn ml_RX11_385 im_X6_daysIn se_X6_daysIn (px_in h.1) (ob1 _ _ _ _ _ _) rfl rfl (ct_X6_daysIn x7.toNatClampNeg x2 x3 h.2) (by rw [hR]; exact ⟨rfl, rfl, by decide, by decide⟩) rfl (Nat.le_of_ble_eq_true rfl) dX11_daysOnPosts_51 ⟨by rw [hR]; decide, by rw [hR]; decide⟩) (fun r_9 s_8 h => ?_)
          refine k_iadd hC (pc := 54) dX11_daysOnPosts_54 ?_
          refine k_topi (fun x_10 h_x_10 => ?_)
          have h := h x_10 h_x_10
          refine k_istore hC (pc := 55) dX11_daysOnPosts_55 [(4, .int x_10), (8, .ref (adr X.G a 1 x7.toNatClampNeg)), (1, .int x1), (2, .int x2), (3, .int x3), (5, .ref (adr X.G a 0 6)), (6, .int x6), (7, .int x7)] (by decide) rfl ?_
          obtain ⟨x_11, h_x_11⟩ : ∃ z : Int32, z = x7 + 1 := ⟨_, rfl⟩
          have h := h x_11 h_x_11
          refine k_iincw hC (pc := 57) dX11_daysOnPosts_57 7 rfl ic_1 h_x_11.symm [(7, .int x_11), (4, .int x_10), (8, .ref (adr X.G a 1 x7.toNatClampNeg)), (1, .int x1), (2, .int x2), (3, .int x3), (5, .ref (adr X.G a 0 6)), (6, .int x6)] (by decide) rfl ?_
          refine k_goto hC (pc := 60) 17 dX11_daysOnPosts_60 (by decide) ?_
          refine k_sub [(1, .int x1), (2, .int x2), (3, .int x3), (4, .int x_10), (5, .ref (adr X.G a 0 6)), (6, .int x6), (7, .int x_11)] [3, 4, 5, 1, 6, 7, 0] rfl ?_
          exact ih _ _ _ _ _ _ _ h
set_option maxHeartbeats 4000000 in
theorem b_X11_daysOnPosts {X : Kx} {a : Ax} {N : Nat} {post : Int32 → Sx → Prop} (hC : Cx X cX11_daysOnPosts 9 RX11) (hR : X.R = { frames := 2, cells := 0, slots := 0, locals := 43 }) (hQ : X.Q = MQ X.below (Qi X.G a post) X.av X.s 0 0 (bs_ X.G)) (hr : X.meth.sig.returnType = (some .int)) (hn : X.meth.name = "daysOnPosts") (s : Sx) (x1 : Int32) (x2 : Int32) (x3 : Int32) (h : w_X11_daysOnPosts N x1 x2 x3 s post) : wk X a s 9 0 [(0, .ref (adr X.G a 0 0)), (1, .int x1), (2, .int x2), (3, .int x3)] [] 0 0 := by
  unfold w_X11_daysOnPosts at h
  refine k_iconst hC (pc := 0) (v := 0) dX11_daysOnPosts_0 ic_0 ?_
  refine k_istore hC (pc := 1) dX11_daysOnPosts_1 [(4, .int 0), (0, .ref (adr X.G a 0 0)), (1, .int x1), (2, .int x2), (3, .int x3)] (by decide) rfl ?_
  refine k_aload_n hC (pc := 3) dX11_daysOnPosts_3 1 rfl ?_
  refine gf_X11_2 hC (pc := 4)  fl_RX11_20 dX11_daysOnPosts_4 ?_
  refine k_astore hC (pc := 7) dX11_daysOnPosts_7 [(5, .ref (adr X.G a 0 6)), (4, .int 0), (0, .ref (adr X.G a 0 0)), (1, .int x1), (2, .int x2), (3, .int x3)] (by decide) rfl ?_
  refine k_aload hC (pc := 9) dX11_daysOnPosts_9 0 rfl ?_
  refine r_lenP hC (pc := 11) dX11_daysOnPosts_11 ?_
  refine k_istore hC (pc := 12) dX11_daysOnPosts_12 [(6, .int 30), (5, .ref (adr X.G a 0 6)), (4, .int 0), (0, .ref (adr X.G a 0 0)), (1, .int x1), (2, .int x2), (3, .int x3)] (by decide) rfl ?_
  refine k_iconst hC (pc := 14) (v := 0) dX11_daysOnPosts_14 ic_0 ?_
  refine k_istore hC (pc := 15) dX11_daysOnPosts_15 [(7, .int 0), (6, .int 30), (5, .ref (adr X.G a 0 6)), (4, .int 0), (0, .ref (adr X.G a 0 0)), (1, .int x1), (2, .int x2), (3, .int x3)] (by decide) rfl ?_
  refine k_sub [(1, .int x1), (2, .int x2), (3, .int x3), (4, .int 0), (5, .ref (adr X.G a 0 6)), (6, .int 30), (7, .int 0)] [5, 6, 7, 3, 2, 1, 0] rfl ?_
  exact b_X11_daysOnPosts_17 hC hR hQ hr N _ _ _ _ _ _ _ h
theorem ct_X11_daysOnPosts {l : Launch} {G : Gx} {a : Ax} {s : Sx} {N : Nat} {post : Int32 → Sx → Prop} (x1 : Int32) (x2 : Int32) (x3 : Int32) (h : w_X11_daysOnPosts N x1 x2 x3 s post) : Met l yX11_daysOnPosts (Cond.code yX11_daysOnPosts cX11_daysOnPosts 9 (some .int) :: gw) { frames := 2, cells := 0, slots := 0, locals := 43 } (va_Pc [.ref (adr G a 0 0), .int x1, .int x2, .int x3] (fun U => FU G a s U)) (Qi G a post) 0 0 (bs_ G) := met_of (plainFor_of_name (by decide)) (Nat.le_of_ble_eq_true rfl) rfl (fun X hC hl hR hQ hr hG hn => by subst hG; exact b_X11_daysOnPosts hC hR hQ hr hn s x1 x2 x3 h)
theorem ca_X11_daysOnPosts : Ca yX11_daysOnPosts cX11_daysOnPosts 9 (some .int) 3 := ⟨cd_X11_daysOnPosts, ii_RX11, by decide, by decide, by decide +kernel⟩
def w_X11_post (N : Nat) (x1 : Int32) (x2 : Int32) (x3 : Int32) (x4 : Int32) (x5 : Int32) (s : Sx) (post : Int32 → Sx → Prop) : Prop := w_X11_isMan N x2 s (fun r_2 s_1 => (r_2 = 0 → post ((-1)) s_1) ∧ (¬ (r_2 = 0) → w_X0_has N x3 s_1 (fun r_5 s_4 => (¬ r_5 = 0 → w_X11_isKind N x1 s_4 (fun r_8 s_7 => (r_8 = 0 → post ((-2)) s_7) ∧ (¬ (r_8 = 0) → w_X11_areDays N x4 x5 s_7 (fun r_11 s_10 => (¬ r_11 = 0 → w_X11_daysOnPosts N x2 x4 x5 s_10 (fun r_14 s_13 => (r_14 ≤ 0 → ((s_13.1 0 0 3) < 30 → s_13.2.2 1 ≤ s_13.2.2 0 ∧ ∀ s_17, s_17 = newD s_13 1 0 → w_X6_init N (s_13.2.2 0) x1 x2 x3 x4 x5 s_17 (fun s_20 => (s_13.2.2 0) < s_20.2.2 0 ∧ (s_13.1 0 0 3).toNatClampNeg = s_20.2.2 1 ∧ (s_13.2.2 0) = s_20.2.2 1 ∧ vp_in (s_13.1 0 0 3) 30 ∧ ∀ s_25, s_25 = setN s_20 1 (s_20.2.2 1 + 1) → ∀ s_26, s_26 = setI s_25 0 0 3 ((s_25.1 0 0 3) + 1) → post ((s_26.1 0 0 3) - 1) s_26)) ∧ (¬ ((s_13.1 0 0 3) < 30) → post ((-4)) s_13)) ∧ (¬ (r_14 ≤ 0) → post ((-3)) s_13))) ∧ (¬ (¬ r_11 = 0) → post ((-2)) s_10))))) ∧ (¬ (¬ r_5 = 0) → post ((-1)) s_4))))
set_option maxHeartbeats 4000000 in
theorem b_X11_post {X : Kx} {a : Ax} {N : Nat} {post : Int32 → Sx → Prop} (hC : Cx X cX11_post 6 RX11) (hR : X.R = { frames := 3, cells := 1, slots := 5, locals := 71 }) (hQ : X.Q = MQ X.below (Qa X.G post) X.av X.s 1 5 (bs_ X.G)) (hr : X.meth.sig.returnType = (some .int)) (hn : X.meth.name = "post") (s : Sx) (x1 : Int32) (x2 : Int32) (x3 : Int32) (x4 : Int32) (x5 : Int32) (h : w_X11_post N x1 x2 x3 x4 x5 s post) : wk X a s 6 0 [(0, .ref (adr X.G a 0 0)), (1, .int x1), (2, .int x2), (3, .int x3), (4, .int x4), (5, .int x5)] [] 0 0 := by
  unfold w_X11_post at h
  refine k_aload_n hC (pc := 0) dX11_post_0 0 rfl ?_
  refine k_iload_n hC (pc := 1) dX11_post_1 2 rfl ?_
  refine k_ci (rn_V hC (pc := 2) (As := [.int x2]) (rest := []) ca_X11_isMan ml_RX11_92 im_X11_isMan se_X11_isMan (fx_in f0_0) (ob0_0 _ _ _ _ _) rfl rfl (ct_X11_isMan x2 h) (by rw [hR]; exact ⟨rfl, rfl, by decide, by decide⟩) rfl (Nat.le_of_ble_eq_true rfl) dX11_post_2 ⟨by rw [hR]; decide, by rw [hR]; decide⟩) (fun r_2 s_1 h => ?_)
  refine k_if_eq hC (pc := 5) 19 dX11_post_5 (by decide) (fun c_3 => ?_) (fun c_3 => ?_)
  · have h := h.1 c_3
    refine k_iconst hC (pc := 19) (v := (-1)) dX11_post_19 ic_m1 ?_
    refine k_widen 1 5 (by decide) (by decide) ?_
    exact k_aret hC (pc := 20) hQ hr dX11_post_20 h
  · have h := h.2 c_3
    refine k_aload_n hC (pc := 8) dX11_post_8 0 rfl ?_
    refine gf_X11_0 hC (pc := 9)  fl_RX11_12 dX11_post_9 ?_
    refine k_iload_n hC (pc := 12) dX11_post_12 3 rfl ?_
    refine k_ci (rn_V hC (pc := 13) (As := [.int x3]) (rest := []) ca_X0_has ml_RX11_96 im_X0_has se_X0_has (fx_in f0_1) (ob0_1 _ _ _ _ _) rfl rfl (ct_X0_has x3 h) (by rw [hR]; exact ⟨rfl, rfl, by decide, by decide⟩) rfl (Nat.le_of_ble_eq_true rfl) dX11_post_13 ⟨by rw [hR]; decide, by rw [hR]; decide⟩) (fun r_5 s_4 h => ?_)
    refine k_if_ne hC (pc := 16) 21 dX11_post_16 (by decide) (fun c_6 => ?_) (fun c_6 => ?_)
    · have h := h.1 c_6
      refine k_iload_n hC (pc := 21) dX11_post_21 1 rfl ?_
      refine k_ci (rn_S hC (pc := 22) (As := [.int x1]) (rest := []) ca_X11_isKind ml_RX11_99 sm_X11_isKind (ct_X11_isKind x1 h) (by rw [hR]; exact ⟨rfl, rfl, by decide, by decide⟩) rfl (Nat.le_of_ble_eq_true rfl) dX11_post_22 ⟨by rw [hR]; decide, by rw [hR]; decide⟩) (fun r_8 s_7 h => ?_)
      refine k_if_eq hC (pc := 25) 38 dX11_post_25 (by decide) (fun c_9 => ?_) (fun c_9 => ?_)
      · have h := h.1 c_9
        refine k_bipush hC (pc := 38) (v := (-2)) dX11_post_38 bp_m2 ?_
        refine k_widen 1 5 (by decide) (by decide) ?_
        exact k_aret hC (pc := 40) hQ hr dX11_post_40 h
      · have h := h.2 c_9
        refine k_iload hC (pc := 28) dX11_post_28 4 rfl ?_
        refine k_iload hC (pc := 30) dX11_post_30 5 rfl ?_
        refine k_ci (rn_S hC (pc := 32) (As := [.int x4, .int x5]) (rest := []) ca_X11_areDays ml_RX11_102 sm_X11_areDays (ct_X11_areDays x4 x5 h) (by rw [hR]; exact ⟨rfl, rfl, by decide, by decide⟩) rfl (Nat.le_of_ble_eq_true rfl) dX11_post_32 ⟨by rw [hR]; decide, by rw [hR]; decide⟩) (fun r_11 s_10 h => ?_)
        refine k_if_ne hC (pc := 35) 41 dX11_post_35 (by decide) (fun c_12 => ?_) (fun c_12 => ?_)
        · have h := h.1 c_12
          refine k_aload_n hC (pc := 41) dX11_post_41 0 rfl ?_
          refine k_iload_n hC (pc := 42) dX11_post_42 2 rfl ?_
          refine k_iload hC (pc := 43) dX11_post_43 4 rfl ?_
          refine k_iload hC (pc := 45) dX11_post_45 5 rfl ?_
          refine k_ci (rn_V hC (pc := 47) (As := [.int x2, .int x4, .int x5]) (rest := []) ca_X11_daysOnPosts ml_RX11_105 im_X11_daysOnPosts se_X11_daysOnPosts (fx_in f0_0) (ob0_0 _ _ _ _ _) rfl rfl (ct_X11_daysOnPosts x2 x4 x5 h) (by rw [hR]; exact ⟨rfl, rfl, by decide, by decide⟩) rfl (Nat.le_of_ble_eq_true rfl) dX11_post_47 ⟨by rw [hR]; decide, by rw [hR]; decide⟩) (fun r_14 s_13 h => ?_)
          refine k_if_le hC (pc := 50) 56 dX11_post_50 (by decide) (fun c_15 => ?_) (fun c_15 => ?_)
          · have h := h.1 c_15
            refine k_aload_n hC (pc := 56) dX11_post_56 0 rfl ?_
            refine gf_X11_3 hC (pc := 57)  fl_RX11_108 dX11_post_57 ?_
            refine k_bipush hC (pc := 60) (v := 30) dX11_post_60 bp_30 ?_
            refine k_icmp_lt hC (pc := 62) 68 dX11_post_62 (by decide) (fun c_16 => ?_) (fun c_16 => ?_)
            · have h := h.1 c_16
              refine k_aload_n hC (pc := 68) dX11_post_68 0 rfl ?_
              refine gf_X11_2 hC (pc := 69)  fl_RX11_20 dX11_post_69 ?_
              refine k_aload_n hC (pc := 72) dX11_post_72 0 rfl ?_
              refine gf_X11_3 hC (pc := 73)  fl_RX11_108 dX11_post_73 ?_
              obtain ⟨c_19, h⟩ := h
              refine r_newX6 hC (pc := 76) c_19 cl_RX11_18 (by rw [hR]; decide) (by rw [hR]; decide) dX11_post_76 (fun a_18 h_a_18 s_17 h_s_17 => ?_)
              obtain ⟨q_a_18, rfl⟩ := h_a_18
              have h := h s_17 h_s_17
              refine k_dup hC (pc := 79) dX11_post_79 rfl ?_
              refine k_iload_n hC (pc := 80) dX11_post_80 1 rfl ?_
              refine k_iload_n hC (pc := 81) dX11_post_81 2 rfl ?_
              refine k_iload_n hC (pc := 82) dX11_post_82 3 rfl ?_
              refine k_iload hC (pc := 83) dX11_post_83 4 rfl ?_
              refine k_iload hC (pc := 85) dX11_post_85 5 rfl ?_
              refine k_cv (rn_I hC (pc := 87) (As := [.int x1, .int x2, .int x3, .int x4, .int x5]) (rest := [.ref (adr X.G (va_up a.1 (s_13.2.2 0) q_a_18, a.2) 1 (s_13.2.2 0)), .int (s_13.1 0 0 3), .ref (adr X.G a 0 6)]) ca_X6_init rfl ml_RX11_111 im_X6_init (ct_X6_init (s_13.2.2 0) x1 x2 x3 x4 x5 h) (by rw [hR]; exact ⟨rfl, rfl, by decide, by decide⟩) rfl (Nat.le_of_ble_eq_true rfl) dX11_post_87 ⟨by rw [hR]; decide, by rw [hR]; decide⟩) (fun s_20 h => ?_)
              obtain ⟨c_21, c_22, c_23, c_24, h⟩ := h
              refine r_astP hC (pc := 90) c_21 c_22 c_23 c_24 dX11_post_90 (fun s_25 h_s_25 => ?_)
              have h := h s_25 h_s_25
              refine k_aload_n hC (pc := 91) dX11_post_91 0 rfl ?_
              refine k_dup hC (pc := 92) dX11_post_92 rfl ?_
              refine gf_X11_3 hC (pc := 93)  fl_RX11_108 dX11_post_93 ?_
              refine k_iconst hC (pc := 96) (v := 1) dX11_post_96 ic_1 ?_
              refine k_iadd hC (pc := 97) dX11_post_97 ?_
              refine pf_X11_3 hC (pc := 98)  fl_RX11_108 dX11_post_98 (fun s_26 h_s_26 => ?_)
              have h := h s_26 h_s_26
              refine k_aload_n hC (pc := 101) dX11_post_101 0 rfl ?_
              refine gf_X11_3 hC (pc := 102)  fl_RX11_108 dX11_post_102 ?_
              refine k_iconst hC (pc := 105) (v := 1) dX11_post_105 ic_1 ?_
              refine k_isub hC (pc := 106) dX11_post_106 ?_
              exact k_aret hC (pc := 107) hQ hr dX11_post_107 h
            · have h := h.2 c_16
              refine k_bipush hC (pc := 65) (v := (-4)) dX11_post_65 bp_m4 ?_
              refine k_widen 1 5 (by decide) (by decide) ?_
              exact k_aret hC (pc := 67) hQ hr dX11_post_67 h
          · have h := h.2 c_15
            refine k_bipush hC (pc := 53) (v := (-3)) dX11_post_53 bp_m3 ?_
            refine k_widen 1 5 (by decide) (by decide) ?_
            exact k_aret hC (pc := 55) hQ hr dX11_post_55 h
        · have h := h.2 c_12
          refine k_bipush hC (pc := 38) (v := (-2)) dX11_post_38 bp_m2 ?_
          refine k_widen 1 5 (by decide) (by decide) ?_
          exact k_aret hC (pc := 40) hQ hr dX11_post_40 h
    · have h := h.2 c_6
      refine k_iconst hC (pc := 19) (v := (-1)) dX11_post_19 ic_m1 ?_
      refine k_widen 1 5 (by decide) (by decide) ?_
      exact k_aret hC (pc := 20) hQ hr dX11_post_20 h
theorem ct_X11_post {l : Launch} {G : Gx} {a : Ax} {s : Sx} {N : Nat} {post : Int32 → Sx → Prop} (x1 : Int32) (x2 : Int32) (x3 : Int32) (x4 : Int32) (x5 : Int32) (h : w_X11_post N x1 x2 x3 x4 x5 s post) : Met l yX11_post (Cond.code yX11_post cX11_post 6 (some .int) :: gw) { frames := 3, cells := 1, slots := 5, locals := 71 } (va_Pc [.ref (adr G a 0 0), .int x1, .int x2, .int x3, .int x4, .int x5] (fun U => FU G a s U)) (Qa G post) 1 5 (bs_ G) := met_of (plainFor_of_name (by decide)) (Nat.le_of_ble_eq_true rfl) rfl (fun X hC hl hR hQ hr hG hn => by subst hG; exact b_X11_post hC hR hQ hr hn s x1 x2 x3 x4 x5 h)
theorem ca_X11_post : Ca yX11_post cX11_post 6 (some .int) 5 := ⟨cd_X11_post, ii_RX11, by decide, by decide, by decide +kernel⟩
def w_X11_day_22 (N : Nat) (post : Int32 → Sx → Prop) : Nat → Sx → Int32 → Int32 → Int32 → Prop
  | 0, _, _, _, _ => False
  | n + 1, s, x1, x2, x3 => (30 ≤ x3 → post ((-9)) s) ∧ (¬ (30 ≤ x3) → vp_in x3 30 ∧ (¬ x3.toNatClampNeg < s.2.2 1 → ∀ x_10 : Int32, x_10 = x3 + 1 → w_X11_day_22 N post n s x1 x2 x_10) ∧ (x3.toNatClampNeg < s.2.2 1 → x3.toNatClampNeg < s.2.2 0 ∧ (¬ (s.1 1 x3.toNatClampNeg 1) = x1 → ∀ x_13 : Int32, x_13 = x3 + 1 → w_X11_day_22 N post n s x1 x2 x_13) ∧ (¬ (¬ (s.1 1 x3.toNatClampNeg 1) = x1) → x3.toNatClampNeg < s.2.2 0 ∧ w_X6_holdsOn N x3.toNatClampNeg x2 s (fun r_15 s_14 => (r_15 = 0 → ∀ x_17 : Int32, x_17 = x3 + 1 → w_X11_day_22 N post n s_14 x1 x2 x_17) ∧ (¬ (r_15 = 0) → post x3 s_14)))))
def w_X11_day (N : Nat) (x1 : Int32) (x2 : Int32) (s : Sx) (post : Int32 → Sx → Prop) : Prop := w_X11_isMan N x1 s (fun r_2 s_1 => (¬ r_2 = 0 → w_X11_isDay N x2 s_1 (fun r_5 s_4 => (¬ r_5 = 0 → w_X11_day_22 N post N s_4 x1 x2 0) ∧ (¬ (¬ r_5 = 0) → post ((-2)) s_4))) ∧ (¬ (¬ r_2 = 0) → post ((-1)) s_1))
set_option maxHeartbeats 4000000 in
theorem b_X11_day_22 {X : Kx} {a : Ax} {N : Nat} {post : Int32 → Sx → Prop}  (hC : Cx X cX11_day 5 RX11) (hR : X.R = { frames := 2, cells := 0, slots := 0, locals := 43 }) (hQ : X.Q = MQ X.below (Qi X.G a post) X.av X.s 0 0 (bs_ X.G)) (hr : X.meth.sig.returnType = (some .int))   : ∀ (n : Nat) (s : Sx) (x1 : Int32) (x2 : Int32) (x3 : Int32), w_X11_day_22 N post  n s x1 x2 x3 → wk X a s 5 22 [(0, .ref (adr X.G a 0 0)), (1, .int x1), (2, .int x2), (3, .int x3)] [] 0 0 := by
  intro n
  induction n with
  | zero => intro s x1 x2 x3 h; exact h.elim
  | succ n ih =>
    intro s x1 x2 x3 h
    unfold w_X11_day_22 at h
    refine k_iload_n hC (pc := 22) dX11_day_22 3 rfl ?_
    refine k_bipush hC (pc := 23) (v := 30) dX11_day_23 bp_30 ?_
    refine k_icmp_ge hC (pc := 25) 67 dX11_day_25 (by decide) (fun c_7 => ?_) (fun c_7 => ?_)
    · have h := h.1 c_7
      refine k_bipush hC (pc := 67) (v := (-9)) dX11_day_67 bp_m9 ?_
      exact k_iret hC (pc := 69) hQ hr dX11_day_69 h
    · have h := h.2 c_7
      refine k_aload_n hC (pc := 28) dX11_day_28 0 rfl ?_
      refine gf_X11_2 hC (pc := 29)  fl_RX11_20 dX11_day_29 ?_
      refine k_iload_n hC (pc := 32) dX11_day_32 3 rfl ?_
      obtain ⟨c_8, h⟩ := h
      refine r_aldP hC (pc := 33) c_8 dX11_day_33 (fun c_9 => ?_) (fun c_9 => ?_)
      · have h := h.1 c_9
        refine k_astoreN hC (pc := 34) dX11_day_34 [(4, .null), (0, .ref (adr X.G a 0 0)), (1, .int x1), (2, .int x2), (3, .int x3)] (by decide) rfl ?_
        refine k_aloadN hC (pc := 36) dX11_day_36 0 rfl ?_
        refine k_ifnullN hC (pc := 38) 61 dX11_day_38 (by decide) ?_
        obtain ⟨x_10, h_x_10⟩ : ∃ z : Int32, z = x3 + 1 := ⟨_, rfl⟩
        have h := h x_10 h_x_10
        refine k_iincw hC (pc := 61) dX11_day_61 4 rfl ic_1 h_x_10.symm [(3, .int x_10), (4, .null), (0, .ref (adr X.G a 0 0)), (1, .int x1), (2, .int x2)] (by decide) rfl ?_
        refine k_goto hC (pc := 64) 22 dX11_day_64 (by decide) ?_
        refine k_sub [(0, .ref (adr X.G a 0 0)), (1, .int x1), (2, .int x2), (3, .int x_10)] [2, 3, 4, 0] rfl ?_
        exact ih _ _ _ _ h
      · have h := h.2 c_9
        refine k_astore hC (pc := 34) dX11_day_34 [(4, .ref (adr X.G a 1 x3.toNatClampNeg)), (0, .ref (adr X.G a 0 0)), (1, .int x1), (2, .int x2), (3, .int x3)] (by decide) rfl ?_
        refine k_aload hC (pc := 36) dX11_day_36 0 rfl ?_
        refine k_ifnull hC (pc := 38) dX11_day_38 ?_
        refine k_aload hC (pc := 41) dX11_day_41 0 rfl ?_
        obtain ⟨c_11, h⟩ := h
        refine gf_X6_1 hC (pc := 43) c_11 fl_RX11_117 dX11_day_43 ?_
        refine k_iload_n hC (pc := 46) dX11_day_46 2 rfl ?_
        refine k_icmp_ne hC (pc := 47) 61 dX11_day_47 (by decide) (fun c_12 => ?_) (fun c_12 => ?_)
        · have h := h.1 c_12
          obtain ⟨x_13, h_x_13⟩ : ∃ z : Int32, z = x3 + 1 := ⟨_, rfl⟩
          have h := h x_13 h_x_13
          refine k_iincw hC (pc := 61) dX11_day_61 4 rfl ic_1 h_x_13.symm [(3, .int x_13), (4, .ref (adr X.G a 1 x3.toNatClampNeg)), (0, .ref (adr X.G a 0 0)), (1, .int x1), (2, .int x2)] (by decide) rfl ?_
          refine k_goto hC (pc := 64) 22 dX11_day_64 (by decide) ?_
          refine k_sub [(0, .ref (adr X.G a 0 0)), (1, .int x1), (2, .int x2), (3, .int x_13)] [2, 3, 4, 0] rfl ?_
          exact ih _ _ _ _ h
        · have h := h.2 c_12
          refine k_aload hC (pc := 50) dX11_day_50 0 rfl ?_
          refine k_iload_n hC (pc := 52) dX11_day_52 3 rfl ?_
          refine k_ci (rn_V hC (pc := 53) (As := [.int x2]) (rest := []) ca_X6_holdsOn ml_RX11_120 im_X6_holdsOn se_X6_holdsOn (px_in h.1) (ob1 _ _ _ _ _ _) rfl rfl (ct_X6_holdsOn x3.toNatClampNeg x2 h.2) (by rw [hR]; exact ⟨rfl, rfl, by decide, by decide⟩) rfl (Nat.le_of_ble_eq_true rfl) dX11_day_53 ⟨by rw [hR]; decide, by rw [hR]; decide⟩) (fun r_15 s_14 h => ?_)
          refine k_if_eq hC (pc := 56) 61 dX11_day_56 (by decide) (fun c_16 => ?_) (fun c_16 => ?_)
          · have h := h.1 c_16
            obtain ⟨x_17, h_x_17⟩ : ∃ z : Int32, z = x3 + 1 := ⟨_, rfl⟩
            have h := h x_17 h_x_17
            refine k_iincw hC (pc := 61) dX11_day_61 4 rfl ic_1 h_x_17.symm [(3, .int x_17), (4, .ref (adr X.G a 1 x3.toNatClampNeg)), (0, .ref (adr X.G a 0 0)), (1, .int x1), (2, .int x2)] (by decide) rfl ?_
            refine k_goto hC (pc := 64) 22 dX11_day_64 (by decide) ?_
            refine k_sub [(0, .ref (adr X.G a 0 0)), (1, .int x1), (2, .int x2), (3, .int x_17)] [2, 3, 4, 0] rfl ?_
            exact ih _ _ _ _ h
          · have h := h.2 c_16
            refine k_iload_n hC (pc := 59) dX11_day_59 4 rfl ?_
            exact k_iret hC (pc := 60) hQ hr dX11_day_60 h
set_option maxHeartbeats 4000000 in
theorem b_X11_day {X : Kx} {a : Ax} {N : Nat} {post : Int32 → Sx → Prop} (hC : Cx X cX11_day 5 RX11) (hR : X.R = { frames := 2, cells := 0, slots := 0, locals := 43 }) (hQ : X.Q = MQ X.below (Qi X.G a post) X.av X.s 0 0 (bs_ X.G)) (hr : X.meth.sig.returnType = (some .int)) (hn : X.meth.name = "day") (s : Sx) (x1 : Int32) (x2 : Int32) (h : w_X11_day N x1 x2 s post) : wk X a s 5 0 [(0, .ref (adr X.G a 0 0)), (1, .int x1), (2, .int x2)] [] 0 0 := by
  unfold w_X11_day at h
  refine k_aload_n hC (pc := 0) dX11_day_0 0 rfl ?_
  refine k_iload_n hC (pc := 1) dX11_day_1 1 rfl ?_
  refine k_ci (rn_V hC (pc := 2) (As := [.int x1]) (rest := []) ca_X11_isMan ml_RX11_92 im_X11_isMan se_X11_isMan (fx_in f0_0) (ob0_0 _ _ _ _ _) rfl rfl (ct_X11_isMan x1 h) (by rw [hR]; exact ⟨rfl, rfl, by decide, by decide⟩) rfl (Nat.le_of_ble_eq_true rfl) dX11_day_2 ⟨by rw [hR]; decide, by rw [hR]; decide⟩) (fun r_2 s_1 h => ?_)
  refine k_if_ne hC (pc := 5) 10 dX11_day_5 (by decide) (fun c_3 => ?_) (fun c_3 => ?_)
  · have h := h.1 c_3
    refine k_iload_n hC (pc := 10) dX11_day_10 2 rfl ?_
    refine k_ci (rn_S hC (pc := 11) (As := [.int x2]) (rest := []) ca_X11_isDay ml_RX11_114 sm_X11_isDay (ct_X11_isDay x2 h) (by rw [hR]; exact ⟨rfl, rfl, by decide, by decide⟩) rfl (Nat.le_of_ble_eq_true rfl) dX11_day_11 ⟨by rw [hR]; decide, by rw [hR]; decide⟩) (fun r_5 s_4 h => ?_)
    refine k_if_ne hC (pc := 14) 20 dX11_day_14 (by decide) (fun c_6 => ?_) (fun c_6 => ?_)
    · have h := h.1 c_6
      refine k_iconst hC (pc := 20) (v := 0) dX11_day_20 ic_0 ?_
      refine k_istore_n hC (pc := 21) dX11_day_21 [(3, .int 0), (0, .ref (adr X.G a 0 0)), (1, .int x1), (2, .int x2)] (by decide) rfl ?_
      refine k_sub [(0, .ref (adr X.G a 0 0)), (1, .int x1), (2, .int x2), (3, .int 0)] [1, 2, 3, 0] rfl ?_
      exact b_X11_day_22 hC hR hQ hr N _ _ _ _ h
    · have h := h.2 c_6
      refine k_bipush hC (pc := 17) (v := (-2)) dX11_day_17 bp_m2 ?_
      exact k_iret hC (pc := 19) hQ hr dX11_day_19 h
  · have h := h.2 c_3
    refine k_iconst hC (pc := 8) (v := (-1)) dX11_day_8 ic_m1 ?_
    exact k_iret hC (pc := 9) hQ hr dX11_day_9 h
theorem ct_X11_day {l : Launch} {G : Gx} {a : Ax} {s : Sx} {N : Nat} {post : Int32 → Sx → Prop} (x1 : Int32) (x2 : Int32) (h : w_X11_day N x1 x2 s post) : Met l yX11_day (Cond.code yX11_day cX11_day 5 (some .int) :: gw) { frames := 2, cells := 0, slots := 0, locals := 43 } (va_Pc [.ref (adr G a 0 0), .int x1, .int x2] (fun U => FU G a s U)) (Qi G a post) 0 0 (bs_ G) := met_of (plainFor_of_name (by decide)) (Nat.le_of_ble_eq_true rfl) rfl (fun X hC hl hR hQ hr hG hn => by subst hG; exact b_X11_day hC hR hQ hr hn s x1 x2 h)
theorem ca_X11_day : Ca yX11_day cX11_day 5 (some .int) 2 := ⟨cd_X11_day, ii_RX11, by decide, by decide, by decide +kernel⟩
def w_X11_menAt_16 (N : Nat) (post : Int32 → Sx → Prop) : Nat → Sx → Int32 → Int32 → Int32 → Int32 → Int32 → Prop
  | 0, _, _, _, _, _, _ => False
  | n + 1, s, x1, x2, x3, x5, x6 => (x5 ≤ x6 → post x3 s) ∧ (¬ (x5 ≤ x6) → vp_in x6 30 ∧ (¬ x6.toNatClampNeg < s.2.2 1 → ∀ x_4 : Int32, x_4 = x6 + 1 → w_X11_menAt_16 N post n s x1 x2 x3 x5 x_4) ∧ (x6.toNatClampNeg < s.2.2 1 → x6.toNatClampNeg < s.2.2 0 ∧ (¬ (s.1 1 x6.toNatClampNeg 2) = x1 → ∀ x_7 : Int32, x_7 = x6 + 1 → w_X11_menAt_16 N post n s x1 x2 x3 x5 x_7) ∧ (¬ (¬ (s.1 1 x6.toNatClampNeg 2) = x1) → x6.toNatClampNeg < s.2.2 0 ∧ w_X6_holdsOn N x6.toNatClampNeg x2 s (fun r_9 s_8 => (r_9 = 0 → ∀ x_11 : Int32, x_11 = x6 + 1 → w_X11_menAt_16 N post n s_8 x1 x2 x3 x5 x_11) ∧ (¬ (r_9 = 0) → ∀ x_12 : Int32, x_12 = x3 + 1 → ∀ x_13 : Int32, x_13 = x6 + 1 → w_X11_menAt_16 N post n s_8 x1 x2 x_12 x5 x_13)))))
def w_X11_menAt (N : Nat) (x1 : Int32) (x2 : Int32) (s : Sx) (post : Int32 → Sx → Prop) : Prop := w_X11_menAt_16 N post N s x1 x2 0 30 0
set_option maxHeartbeats 4000000 in
theorem b_X11_menAt_16 {X : Kx} {a : Ax} {N : Nat} {post : Int32 → Sx → Prop}  (hC : Cx X cX11_menAt 8 RX11) (hR : X.R = { frames := 2, cells := 0, slots := 0, locals := 43 }) (hQ : X.Q = MQ X.below (Qi X.G a post) X.av X.s 0 0 (bs_ X.G)) (hr : X.meth.sig.returnType = (some .int))   : ∀ (n : Nat) (s : Sx) (x1 : Int32) (x2 : Int32) (x3 : Int32) (x5 : Int32) (x6 : Int32), w_X11_menAt_16 N post  n s x1 x2 x3 x5 x6 → wk X a s 8 16 [(1, .int x1), (2, .int x2), (3, .int x3), (4, .ref (adr X.G a 0 6)), (5, .int x5), (6, .int x6)] [] 0 0 := by
  intro n
  induction n with
  | zero => intro s x1 x2 x3 x5 x6 h; exact h.elim
  | succ n ih =>
    intro s x1 x2 x3 x5 x6 h
    unfold w_X11_menAt_16 at h
    refine k_iload hC (pc := 16) dX11_menAt_16 5 rfl ?_
    refine k_iload hC (pc := 18) dX11_menAt_18 4 rfl ?_
    refine k_icmp_ge hC (pc := 20) 62 dX11_menAt_20 (by decide) (fun c_1 => ?_) (fun c_1 => ?_)
    · have h := h.1 c_1
      refine k_iload_n hC (pc := 62) dX11_menAt_62 2 rfl ?_
      exact k_iret hC (pc := 63) hQ hr dX11_menAt_63 h
    · have h := h.2 c_1
      refine k_aload hC (pc := 23) dX11_menAt_23 3 rfl ?_
      refine k_iload hC (pc := 25) dX11_menAt_25 5 rfl ?_
      obtain ⟨c_2, h⟩ := h
      refine r_aldP hC (pc := 27) c_2 dX11_menAt_27 (fun c_3 => ?_) (fun c_3 => ?_)
      · have h := h.1 c_3
        refine k_astoreN hC (pc := 28) dX11_menAt_28 [(7, .null), (1, .int x1), (2, .int x2), (3, .int x3), (4, .ref (adr X.G a 0 6)), (5, .int x5), (6, .int x6)] (by decide) rfl ?_
        refine k_aloadN hC (pc := 30) dX11_menAt_30 0 rfl ?_
        refine k_ifnullN hC (pc := 32) 56 dX11_menAt_32 (by decide) ?_
        obtain ⟨x_4, h_x_4⟩ : ∃ z : Int32, z = x6 + 1 := ⟨_, rfl⟩
        have h := h x_4 h_x_4
        refine k_iincw hC (pc := 56) dX11_menAt_56 6 rfl ic_1 h_x_4.symm [(6, .int x_4), (7, .null), (1, .int x1), (2, .int x2), (3, .int x3), (4, .ref (adr X.G a 0 6)), (5, .int x5)] (by decide) rfl ?_
        refine k_goto hC (pc := 59) 16 dX11_menAt_59 (by decide) ?_
        refine k_sub [(1, .int x1), (2, .int x2), (3, .int x3), (4, .ref (adr X.G a 0 6)), (5, .int x5), (6, .int x_4)] [2, 3, 4, 5, 6, 0] rfl ?_
        exact ih _ _ _ _ _ _ h
      · have h := h.2 c_3
        refine k_astore hC (pc := 28) dX11_menAt_28 [(7, .ref (adr X.G a 1 x6.toNatClampNeg)), (1, .int x1), (2, .int x2), (3, .int x3), (4, .ref (adr X.G a 0 6)), (5, .int x5), (6, .int x6)] (by decide) rfl ?_
        refine k_aload hC (pc := 30) dX11_menAt_30 0 rfl ?_
        refine k_ifnull hC (pc := 32) dX11_menAt_32 ?_
        refine k_aload hC (pc := 35) dX11_menAt_35 0 rfl ?_
        obtain ⟨c_5, h⟩ := h
        refine gf_X6_2 hC (pc := 37) c_5 fl_RX11_127 dX11_menAt_37 ?_
        refine k_iload_n hC (pc := 40) dX11_menAt_40 1 rfl ?_
        refine k_icmp_ne hC (pc := 41) 56 dX11_menAt_41 (by decide) (fun c_6 => ?_) (fun c_6 => ?_)
        · have h := h.1 c_6
          obtain ⟨x_7, h_x_7⟩ : ∃ z : Int32, z = x6 + 1 := ⟨_, rfl⟩
          have h := h x_7 h_x_7
          refine k_iincw hC (pc := 56) dX11_menAt_56 6 rfl ic_1 h_x_7.symm [(6, .int x_7), (7, .ref (adr X.G a 1 x6.toNatClampNeg)), (1, .int x1), (2, .int x2), (3, .int x3), (4, .ref (adr X.G a 0 6)), (5, .int x5)] (by decide) rfl ?_
          refine k_goto hC (pc := 59) 16 dX11_menAt_59 (by decide) ?_
          refine k_sub [(1, .int x1), (2, .int x2), (3, .int x3), (4, .ref (adr X.G a 0 6)), (5, .int x5), (6, .int x_7)] [2, 3, 4, 5, 6, 0] rfl ?_
          exact ih _ _ _ _ _ _ h
        · have h := h.2 c_6
          refine k_aload hC (pc := 44) dX11_menAt_44 0 rfl ?_
          refine k_iload_n hC (pc := 46) dX11_menAt_46 2 rfl ?_
          refine k_ci (rn_V hC (pc := 47) (As := [.int x2]) (rest := []) ca_X6_holdsOn ml_RX11_120 im_X6_holdsOn se_X6_holdsOn (px_in h.1) (ob1 _ _ _ _ _ _) rfl rfl (ct_X6_holdsOn x6.toNatClampNeg x2 h.2) (by rw [hR]; exact ⟨rfl, rfl, by decide, by decide⟩) rfl (Nat.le_of_ble_eq_true rfl) dX11_menAt_47 ⟨by rw [hR]; decide, by rw [hR]; decide⟩) (fun r_9 s_8 h => ?_)
          refine k_if_eq hC (pc := 50) 56 dX11_menAt_50 (by decide) (fun c_10 => ?_) (fun c_10 => ?_)
          · have h := h.1 c_10
            obtain ⟨x_11, h_x_11⟩ : ∃ z : Int32, z = x6 + 1 := ⟨_, rfl⟩
            have h := h x_11 h_x_11
            refine k_iincw hC (pc := 56) dX11_menAt_56 6 rfl ic_1 h_x_11.symm [(6, .int x_11), (7, .ref (adr X.G a 1 x6.toNatClampNeg)), (1, .int x1), (2, .int x2), (3, .int x3), (4, .ref (adr X.G a 0 6)), (5, .int x5)] (by decide) rfl ?_
            refine k_goto hC (pc := 59) 16 dX11_menAt_59 (by decide) ?_
            refine k_sub [(1, .int x1), (2, .int x2), (3, .int x3), (4, .ref (adr X.G a 0 6)), (5, .int x5), (6, .int x_11)] [2, 3, 4, 5, 6, 0] rfl ?_
            exact ih _ _ _ _ _ _ h
          · have h := h.2 c_10
            obtain ⟨x_12, h_x_12⟩ : ∃ z : Int32, z = x3 + 1 := ⟨_, rfl⟩
            have h := h x_12 h_x_12
            refine k_iincw hC (pc := 53) dX11_menAt_53 3 rfl ic_1 h_x_12.symm [(3, .int x_12), (7, .ref (adr X.G a 1 x6.toNatClampNeg)), (1, .int x1), (2, .int x2), (4, .ref (adr X.G a 0 6)), (5, .int x5), (6, .int x6)] (by decide) rfl ?_
            obtain ⟨x_13, h_x_13⟩ : ∃ z : Int32, z = x6 + 1 := ⟨_, rfl⟩
            have h := h x_13 h_x_13
            refine k_iincw hC (pc := 56) dX11_menAt_56 6 rfl ic_1 h_x_13.symm [(6, .int x_13), (3, .int x_12), (7, .ref (adr X.G a 1 x6.toNatClampNeg)), (1, .int x1), (2, .int x2), (4, .ref (adr X.G a 0 6)), (5, .int x5)] (by decide) rfl ?_
            refine k_goto hC (pc := 59) 16 dX11_menAt_59 (by decide) ?_
            refine k_sub [(1, .int x1), (2, .int x2), (3, .int x_12), (4, .ref (adr X.G a 0 6)), (5, .int x5), (6, .int x_13)] [3, 4, 1, 5, 6, 0] rfl ?_
            exact ih _ _ _ _ _ _ h
set_option maxHeartbeats 4000000 in
theorem b_X11_menAt {X : Kx} {a : Ax} {N : Nat} {post : Int32 → Sx → Prop} (hC : Cx X cX11_menAt 8 RX11) (hR : X.R = { frames := 2, cells := 0, slots := 0, locals := 43 }) (hQ : X.Q = MQ X.below (Qi X.G a post) X.av X.s 0 0 (bs_ X.G)) (hr : X.meth.sig.returnType = (some .int)) (hn : X.meth.name = "menAt") (s : Sx) (x1 : Int32) (x2 : Int32) (h : w_X11_menAt N x1 x2 s post) : wk X a s 8 0 [(0, .ref (adr X.G a 0 0)), (1, .int x1), (2, .int x2)] [] 0 0 := by
  unfold w_X11_menAt at h
  refine k_iconst hC (pc := 0) (v := 0) dX11_menAt_0 ic_0 ?_
  refine k_istore_n hC (pc := 1) dX11_menAt_1 [(3, .int 0), (0, .ref (adr X.G a 0 0)), (1, .int x1), (2, .int x2)] (by decide) rfl ?_
  refine k_aload_n hC (pc := 2) dX11_menAt_2 1 rfl ?_
  refine gf_X11_2 hC (pc := 3)  fl_RX11_20 dX11_menAt_3 ?_
  refine k_astore hC (pc := 6) dX11_menAt_6 [(4, .ref (adr X.G a 0 6)), (3, .int 0), (0, .ref (adr X.G a 0 0)), (1, .int x1), (2, .int x2)] (by decide) rfl ?_
  refine k_aload hC (pc := 8) dX11_menAt_8 0 rfl ?_
  refine r_lenP hC (pc := 10) dX11_menAt_10 ?_
  refine k_istore hC (pc := 11) dX11_menAt_11 [(5, .int 30), (4, .ref (adr X.G a 0 6)), (3, .int 0), (0, .ref (adr X.G a 0 0)), (1, .int x1), (2, .int x2)] (by decide) rfl ?_
  refine k_iconst hC (pc := 13) (v := 0) dX11_menAt_13 ic_0 ?_
  refine k_istore hC (pc := 14) dX11_menAt_14 [(6, .int 0), (5, .int 30), (4, .ref (adr X.G a 0 6)), (3, .int 0), (0, .ref (adr X.G a 0 0)), (1, .int x1), (2, .int x2)] (by decide) rfl ?_
  refine k_sub [(1, .int x1), (2, .int x2), (3, .int 0), (4, .ref (adr X.G a 0 6)), (5, .int 30), (6, .int 0)] [5, 6, 3, 2, 1, 0] rfl ?_
  exact b_X11_menAt_16 hC hR hQ hr N _ _ _ _ _ _ h
theorem ct_X11_menAt {l : Launch} {G : Gx} {a : Ax} {s : Sx} {N : Nat} {post : Int32 → Sx → Prop} (x1 : Int32) (x2 : Int32) (h : w_X11_menAt N x1 x2 s post) : Met l yX11_menAt (Cond.code yX11_menAt cX11_menAt 8 (some .int) :: gw) { frames := 2, cells := 0, slots := 0, locals := 43 } (va_Pc [.ref (adr G a 0 0), .int x1, .int x2] (fun U => FU G a s U)) (Qi G a post) 0 0 (bs_ G) := met_of (plainFor_of_name (by decide)) (Nat.le_of_ble_eq_true rfl) rfl (fun X hC hl hR hQ hr hG hn => by subst hG; exact b_X11_menAt hC hR hQ hr hn s x1 x2 h)
theorem ca_X11_menAt : Ca yX11_menAt cX11_menAt 8 (some .int) 2 := ⟨cd_X11_menAt, ii_RX11, by decide, by decide, by decide +kernel⟩
def w_X11_beds (N : Nat) (x1 : Int32) (x2 : Int32) (s : Sx) (post : Int32 → Sx → Prop) : Prop := w_X0_has N x1 s (fun r_2 s_1 => (¬ r_2 = 0 → w_X11_isDay N x2 s_1 (fun r_5 s_4 => (¬ r_5 = 0 → w_X11_menAt N x1 x2 s_4 (fun r_8 s_7 => post r_8 s_7)) ∧ (¬ (¬ r_5 = 0) → post ((-2)) s_4))) ∧ (¬ (¬ r_2 = 0) → post ((-1)) s_1))
set_option maxHeartbeats 4000000 in
theorem b_X11_beds {X : Kx} {a : Ax} {N : Nat} {post : Int32 → Sx → Prop} (hC : Cx X cX11_beds 3 RX11) (hR : X.R = { frames := 3, cells := 0, slots := 0, locals := 70 }) (hQ : X.Q = MQ X.below (Qi X.G a post) X.av X.s 0 0 (bs_ X.G)) (hr : X.meth.sig.returnType = (some .int)) (hn : X.meth.name = "beds") (s : Sx) (x1 : Int32) (x2 : Int32) (h : w_X11_beds N x1 x2 s post) : wk X a s 3 0 [(0, .ref (adr X.G a 0 0)), (1, .int x1), (2, .int x2)] [] 0 0 := by
  unfold w_X11_beds at h
  refine k_aload_n hC (pc := 0) dX11_beds_0 0 rfl ?_
  refine gf_X11_0 hC (pc := 1)  fl_RX11_12 dX11_beds_1 ?_
  refine k_iload_n hC (pc := 4) dX11_beds_4 1 rfl ?_
  refine k_ci (rn_V hC (pc := 5) (As := [.int x1]) (rest := []) ca_X0_has ml_RX11_96 im_X0_has se_X0_has (fx_in f0_1) (ob0_1 _ _ _ _ _) rfl rfl (ct_X0_has x1 h) (by rw [hR]; exact ⟨rfl, rfl, by decide, by decide⟩) rfl (Nat.le_of_ble_eq_true rfl) dX11_beds_5 ⟨by rw [hR]; decide, by rw [hR]; decide⟩) (fun r_2 s_1 h => ?_)
  refine k_if_ne hC (pc := 8) 13 dX11_beds_8 (by decide) (fun c_3 => ?_) (fun c_3 => ?_)
  · have h := h.1 c_3
    refine k_iload_n hC (pc := 13) dX11_beds_13 2 rfl ?_
    refine k_ci (rn_S hC (pc := 14) (As := [.int x2]) (rest := []) ca_X11_isDay ml_RX11_114 sm_X11_isDay (ct_X11_isDay x2 h) (by rw [hR]; exact ⟨rfl, rfl, by decide, by decide⟩) rfl (Nat.le_of_ble_eq_true rfl) dX11_beds_14 ⟨by rw [hR]; decide, by rw [hR]; decide⟩) (fun r_5 s_4 h => ?_)
    refine k_if_ne hC (pc := 17) 23 dX11_beds_17 (by decide) (fun c_6 => ?_) (fun c_6 => ?_)
    · have h := h.1 c_6
      refine k_aload_n hC (pc := 23) dX11_beds_23 0 rfl ?_
      refine k_iload_n hC (pc := 24) dX11_beds_24 1 rfl ?_
      refine k_iload_n hC (pc := 25) dX11_beds_25 2 rfl ?_
      refine k_ci (rn_V hC (pc := 26) (As := [.int x1, .int x2]) (rest := []) ca_X11_menAt ml_RX11_123 im_X11_menAt se_X11_menAt (fx_in f0_0) (ob0_0 _ _ _ _ _) rfl rfl (ct_X11_menAt x1 x2 h) (by rw [hR]; exact ⟨rfl, rfl, by decide, by decide⟩) rfl (Nat.le_of_ble_eq_true rfl) dX11_beds_26 ⟨by rw [hR]; decide, by rw [hR]; decide⟩) (fun r_8 s_7 h => ?_)
      exact k_iret hC (pc := 29) hQ hr dX11_beds_29 h
    · have h := h.2 c_6
      refine k_bipush hC (pc := 20) (v := (-2)) dX11_beds_20 bp_m2 ?_
      exact k_iret hC (pc := 22) hQ hr dX11_beds_22 h
  · have h := h.2 c_3
    refine k_iconst hC (pc := 11) (v := (-1)) dX11_beds_11 ic_m1 ?_
    exact k_iret hC (pc := 12) hQ hr dX11_beds_12 h
theorem ct_X11_beds {l : Launch} {G : Gx} {a : Ax} {s : Sx} {N : Nat} {post : Int32 → Sx → Prop} (x1 : Int32) (x2 : Int32) (h : w_X11_beds N x1 x2 s post) : Met l yX11_beds (Cond.code yX11_beds cX11_beds 3 (some .int) :: gw) { frames := 3, cells := 0, slots := 0, locals := 70 } (va_Pc [.ref (adr G a 0 0), .int x1, .int x2] (fun U => FU G a s U)) (Qi G a post) 0 0 (bs_ G) := met_of (plainFor_of_name (by decide)) (Nat.le_of_ble_eq_true rfl) rfl (fun X hC hl hR hQ hr hG hn => by subst hG; exact b_X11_beds hC hR hQ hr hn s x1 x2 h)
theorem ca_X11_beds : Ca yX11_beds cX11_beds 3 (some .int) 2 := ⟨cd_X11_beds, ii_RX11, by decide, by decide, by decide +kernel⟩
def w_X11_over_70 (N : Nat) (post : Int32 → Sx → Prop) (K28 : Sx → Int32 → Int32 → Int32 → Int32 → Prop) (s : Sx) (x1 : Int32) (x2 : Int32) (x4 : Int32) (x5 : Int32) (j6 : Nat) : Prop := j6 < s.2.2 0 ∧ w_X11_menAt N x1 (s.1 1 j6 3) s (fun r_14 s_13 => vp_in x1 7 ∧ (r_14 ≤ (s_13.1 0 4 x1.toNatClampNeg) → ∀ x_17 : Int32, x_17 = x5 + 1 → K28 s_13 x1 x2 x4 x_17) ∧ (¬ (r_14 ≤ (s_13.1 0 4 x1.toNatClampNeg)) → j6 < s_13.2.2 0 ∧ ∀ x_19 : Int32, x_19 = s_13.1 1 j6 3 → ∀ x_20 : Int32, x_20 = x5 + 1 → K28 s_13 x1 x_19 x4 x_20))
def w_X11_over_28 (N : Nat) (post : Int32 → Sx → Prop) : Nat → Sx → Int32 → Int32 → Int32 → Int32 → Prop
  | 0, _, _, _, _, _ => False
  | n + 1, s, x1, x2, x4, x5 => (x4 ≤ x5 → post x2 s) ∧ (¬ (x4 ≤ x5) → vp_in x5 30 ∧ (¬ x5.toNatClampNeg < s.2.2 1 → ∀ x_7 : Int32, x_7 = x5 + 1 → w_X11_over_28 N post n s x1 x2 x4 x_7) ∧ (x5.toNatClampNeg < s.2.2 1 → x5.toNatClampNeg < s.2.2 0 ∧ (¬ (s.1 1 x5.toNatClampNeg 2) = x1 → ∀ x_10 : Int32, x_10 = x5 + 1 → w_X11_over_28 N post n s x1 x2 x4 x_10) ∧ (¬ (¬ (s.1 1 x5.toNatClampNeg 2) = x1) → (x2 = ((-9)) → w_X11_over_70 N post (w_X11_over_28 N post n) s x1 x2 x4 x5 x5.toNatClampNeg) ∧ (¬ (x2 = ((-9))) → x5.toNatClampNeg < s.2.2 0 ∧ (x2 ≤ (s.1 1 x5.toNatClampNeg 3) → ∀ x_23 : Int32, x_23 = x5 + 1 → w_X11_over_28 N post n s x1 x2 x4 x_23) ∧ (¬ (x2 ≤ (s.1 1 x5.toNatClampNeg 3)) → w_X11_over_70 N post (w_X11_over_28 N post n) s x1 x2 x4 x5 x5.toNatClampNeg)))))
def w_X11_over (N : Nat) (x1 : Int32) (s : Sx) (post : Int32 → Sx → Prop) : Prop := w_X0_has N x1 s (fun r_2 s_1 => (¬ r_2 = 0 → w_X11_over_28 N post N s_1 x1 ((-9)) 30 0) ∧ (¬ (¬ r_2 = 0) → post ((-1)) s_1))
set_option maxHeartbeats 4000000 in
theorem b_X11_over_70 {X : Kx} {a : Ax} {N : Nat} {post : Int32 → Sx → Prop} {K28 : Sx → Int32 → Int32 → Int32 → Int32 → Prop}  (hC : Cx X cX11_over 7 RX11) (hR : X.R = { frames := 3, cells := 0, slots := 0, locals := 70 }) (hQ : X.Q = MQ X.below (Qi X.G a post) X.av X.s 0 0 (bs_ X.G)) (hr : X.meth.sig.returnType = (some .int))  (hK28 : ∀ (s : Sx) (x1 : Int32) (x2 : Int32) (x4 : Int32) (x5 : Int32), K28 s x1 x2 x4 x5 → wk X a s 7 28 [(0, .ref (adr X.G a 0 0)), (1, .int x1), (2, .int x2), (3, .ref (adr X.G a 0 6)), (4, .int x4), (5, .int x5)] [] 0 0) (s : Sx) (x1 : Int32) (x2 : Int32) (x4 : Int32) (x5 : Int32) (j6 : Nat) (h : w_X11_over_70 N post K28 s x1 x2 x4 x5 j6) : wk X a s 7 70 [(0, .ref (adr X.G a 0 0)), (1, .int x1), (2, .int x2), (3, .ref (adr X.G a 0 6)), (4, .int x4), (5, .int x5), (6, .ref (adr X.G a 1 j6))] [] 0 0 := by
  unfold w_X11_over_70 at h
  refine k_aload_n hC (pc := 70) dX11_over_70 0 rfl ?_
  refine k_iload_n hC (pc := 71) dX11_over_71 1 rfl ?_
  refine k_aload hC (pc := 72) dX11_over_72 6 rfl ?_
  obtain ⟨c_12, h⟩ := h
  refine gf_X6_3 hC (pc := 74) c_12 fl_RX11_130 dX11_over_74 ?_
  refine k_ci (rn_V hC (pc := 77) (As := [.int x1, .int (s.1 1 j6 3)]) (rest := []) ca_X11_menAt ml_RX11_123 im_X11_menAt se_X11_menAt (fx_in f0_0) (ob0_0 _ _ _ _ _) rfl rfl (ct_X11_menAt x1 (s.1 1 j6 3) h) (by rw [hR]; exact ⟨rfl, rfl, by decide, by decide⟩) rfl (Nat.le_of_ble_eq_true rfl) dX11_over_77 ⟨by rw [hR]; decide, by rw [hR]; decide⟩) (fun r_14 s_13 h => ?_)
  refine k_aload_n hC (pc := 80) dX11_over_80 0 rfl ?_
  refine gf_X11_0 hC (pc := 81)  fl_RX11_12 dX11_over_81 ?_
  refine gf_X0_2 hC (pc := 84)  fl_RX11_133 dX11_over_84 ?_
  refine k_iload_n hC (pc := 87) dX11_over_87 1 rfl ?_
  obtain ⟨c_15, h⟩ := h
  refine r_iald hC (pc := 88) ra0_4 c_15 dX11_over_88 ?_
  refine k_icmp_le hC (pc := 89) 98 dX11_over_89 (by decide) (fun c_16 => ?_) (fun c_16 => ?_)
  · have h := h.1 c_16
    obtain ⟨x_17, h_x_17⟩ : ∃ z : Int32, z = x5 + 1 := ⟨_, rfl⟩
    have h := h x_17 h_x_17
    refine k_iincw hC (pc := 98) dX11_over_98 5 rfl ic_1 h_x_17.symm [(5, .int x_17), (0, .ref (adr X.G a 0 0)), (1, .int x1), (2, .int x2), (3, .ref (adr X.G a 0 6)), (4, .int x4), (6, .ref (adr X.G a 1 j6))] (by decide) rfl ?_
    refine k_goto hC (pc := 101) 28 dX11_over_101 (by decide) ?_
    refine k_sub [(0, .ref (adr X.G a 0 0)), (1, .int x1), (2, .int x2), (3, .ref (adr X.G a 0 6)), (4, .int x4), (5, .int x_17)] [1, 2, 3, 4, 5, 0] rfl ?_
    exact hK28 _ _ _ _ _ h
  · have h := h.2 c_16
    refine k_aload hC (pc := 92) dX11_over_92 6 rfl ?_
    obtain ⟨c_18, h⟩ := h
    refine gf_X6_3 hC (pc := 94) c_18 fl_RX11_130 dX11_over_94 ?_
    refine k_topi (fun x_19 h_x_19 => ?_)
    have h := h x_19 h_x_19
    refine k_istore_n hC (pc := 97) dX11_over_97 [(2, .int x_19), (0, .ref (adr X.G a 0 0)), (1, .int x1), (3, .ref (adr X.G a 0 6)), (4, .int x4), (5, .int x5), (6, .ref (adr X.G a 1 j6))] (by decide) rfl ?_
    obtain ⟨x_20, h_x_20⟩ : ∃ z : Int32, z = x5 + 1 := ⟨_, rfl⟩
    have h := h x_20 h_x_20
    refine k_iincw hC (pc := 98) dX11_over_98 5 rfl ic_1 h_x_20.symm [(5, .int x_20), (2, .int x_19), (0, .ref (adr X.G a 0 0)), (1, .int x1), (3, .ref (adr X.G a 0 6)), (4, .int x4), (6, .ref (adr X.G a 1 j6))] (by decide) rfl ?_
    refine k_goto hC (pc := 101) 28 dX11_over_101 (by decide) ?_
    refine k_sub [(0, .ref (adr X.G a 0 0)), (1, .int x1), (2, .int x_19), (3, .ref (adr X.G a 0 6)), (4, .int x4), (5, .int x_20)] [2, 3, 1, 4, 5, 0] rfl ?_
    exact hK28 _ _ _ _ _ h
set_option maxHeartbeats 4000000 in
theorem b_X11_over_28 {X : Kx} {a : Ax} {N : Nat} {post : Int32 → Sx → Prop}  (hC : Cx X cX11_over 7 RX11) (hR : X.R = { frames := 3, cells := 0, slots := 0, locals := 70 }) (hQ : X.Q = MQ X.below (Qi X.G a post) X.av X.s 0 0 (bs_ X.G)) (hr : X.meth.sig.returnType = (some .int))   : ∀ (n : Nat) (s : Sx) (x1 : Int32) (x2 : Int32) (x4 : Int32) (x5 : Int32), w_X11_over_28 N post  n s x1 x2 x4 x5 → wk X a s 7 28 [(0, .ref (adr X.G a 0 0)), (1, .int x1), (2, .int x2), (3, .ref (adr X.G a 0 6)), (4, .int x4), (5, .int x5)] [] 0 0 := by
  intro n
  induction n with
  | zero => intro s x1 x2 x4 x5 h; exact h.elim
  | succ n ih =>
    intro s x1 x2 x4 x5 h
    unfold w_X11_over_28 at h
    refine k_iload hC (pc := 28) dX11_over_28 5 rfl ?_
    refine k_iload hC (pc := 30) dX11_over_30 4 rfl ?_
    refine k_icmp_ge hC (pc := 32) 104 dX11_over_32 (by decide) (fun c_4 => ?_) (fun c_4 => ?_)
    · have h := h.1 c_4
      refine k_iload_n hC (pc := 104) dX11_over_104 2 rfl ?_
      exact k_iret hC (pc := 105) hQ hr dX11_over_105 h
    · have h := h.2 c_4
      refine k_aload_n hC (pc := 35) dX11_over_35 3 rfl ?_
      refine k_iload hC (pc := 36) dX11_over_36 5 rfl ?_
      obtain ⟨c_5, h⟩ := h
      refine r_aldP hC (pc := 38) c_5 dX11_over_38 (fun c_6 => ?_) (fun c_6 => ?_)
      · have h := h.1 c_6
        refine k_astoreN hC (pc := 39) dX11_over_39 [(6, .null), (0, .ref (adr X.G a 0 0)), (1, .int x1), (2, .int x2), (3, .ref (adr X.G a 0 6)), (4, .int x4), (5, .int x5)] (by decide) rfl ?_
        refine k_aloadN hC (pc := 41) dX11_over_41 0 rfl ?_
        refine k_ifnullN hC (pc := 43) 98 dX11_over_43 (by decide) ?_
        obtain ⟨x_7, h_x_7⟩ : ∃ z : Int32, z = x5 + 1 := ⟨_, rfl⟩
        have h := h x_7 h_x_7
        refine k_iincw hC (pc := 98) dX11_over_98 6 rfl ic_1 h_x_7.symm [(5, .int x_7), (6, .null), (0, .ref (adr X.G a 0 0)), (1, .int x1), (2, .int x2), (3, .ref (adr X.G a 0 6)), (4, .int x4)] (by decide) rfl ?_
        refine k_goto hC (pc := 101) 28 dX11_over_101 (by decide) ?_
        refine k_sub [(0, .ref (adr X.G a 0 0)), (1, .int x1), (2, .int x2), (3, .ref (adr X.G a 0 6)), (4, .int x4), (5, .int x_7)] [2, 3, 4, 5, 6, 0] rfl ?_
        exact ih _ _ _ _ _ h
      · have h := h.2 c_6
        refine k_astore hC (pc := 39) dX11_over_39 [(6, .ref (adr X.G a 1 x5.toNatClampNeg)), (0, .ref (adr X.G a 0 0)), (1, .int x1), (2, .int x2), (3, .ref (adr X.G a 0 6)), (4, .int x4), (5, .int x5)] (by decide) rfl ?_
        refine k_aload hC (pc := 41) dX11_over_41 0 rfl ?_
        refine k_ifnull hC (pc := 43) dX11_over_43 ?_
        refine k_aload hC (pc := 46) dX11_over_46 0 rfl ?_
        obtain ⟨c_8, h⟩ := h
        refine gf_X6_2 hC (pc := 48) c_8 fl_RX11_127 dX11_over_48 ?_
        refine k_iload_n hC (pc := 51) dX11_over_51 2 rfl ?_
        refine k_icmp_ne hC (pc := 52) 98 dX11_over_52 (by decide) (fun c_9 => ?_) (fun c_9 => ?_)
        · have h := h.1 c_9
          obtain ⟨x_10, h_x_10⟩ : ∃ z : Int32, z = x5 + 1 := ⟨_, rfl⟩
          have h := h x_10 h_x_10
          refine k_iincw hC (pc := 98) dX11_over_98 6 rfl ic_1 h_x_10.symm [(5, .int x_10), (6, .ref (adr X.G a 1 x5.toNatClampNeg)), (0, .ref (adr X.G a 0 0)), (1, .int x1), (2, .int x2), (3, .ref (adr X.G a 0 6)), (4, .int x4)] (by decide) rfl ?_
          refine k_goto hC (pc := 101) 28 dX11_over_101 (by decide) ?_
          refine k_sub [(0, .ref (adr X.G a 0 0)), (1, .int x1), (2, .int x2), (3, .ref (adr X.G a 0 6)), (4, .int x4), (5, .int x_10)] [2, 3, 4, 5, 6, 0] rfl ?_
          exact ih _ _ _ _ _ h
        · have h := h.2 c_9
          refine k_iload_n hC (pc := 55) dX11_over_55 3 rfl ?_
          refine k_bipush hC (pc := 56) (v := (-9)) dX11_over_56 bp_m9 ?_
          refine k_icmp_eq hC (pc := 58) 70 dX11_over_58 (by decide) (fun c_11 => ?_) (fun c_11 => ?_)
          · have h := h.1 c_11
            refine k_sub [(0, .ref (adr X.G a 0 0)), (1, .int x1), (2, .int x2), (3, .ref (adr X.G a 0 6)), (4, .int x4), (5, .int x5), (6, .ref (adr X.G a 1 x5.toNatClampNeg))] [1, 2, 3, 4, 5, 6, 0] rfl ?_
            exact b_X11_over_70 hC hR hQ hr ih _ _ _ _ _ _ h
          · have h := h.2 c_11
            refine k_aload hC (pc := 61) dX11_over_61 0 rfl ?_
            obtain ⟨c_21, h⟩ := h
            refine gf_X6_3 hC (pc := 63) c_21 fl_RX11_130 dX11_over_63 ?_
            refine k_iload_n hC (pc := 66) dX11_over_66 3 rfl ?_
            refine k_icmp_ge hC (pc := 67) 98 dX11_over_67 (by decide) (fun c_22 => ?_) (fun c_22 => ?_)
            · have h := h.1 c_22
              obtain ⟨x_23, h_x_23⟩ : ∃ z : Int32, z = x5 + 1 := ⟨_, rfl⟩
              have h := h x_23 h_x_23
              refine k_iincw hC (pc := 98) dX11_over_98 6 rfl ic_1 h_x_23.symm [(5, .int x_23), (6, .ref (adr X.G a 1 x5.toNatClampNeg)), (0, .ref (adr X.G a 0 0)), (1, .int x1), (2, .int x2), (3, .ref (adr X.G a 0 6)), (4, .int x4)] (by decide) rfl ?_
              refine k_goto hC (pc := 101) 28 dX11_over_101 (by decide) ?_
              refine k_sub [(0, .ref (adr X.G a 0 0)), (1, .int x1), (2, .int x2), (3, .ref (adr X.G a 0 6)), (4, .int x4), (5, .int x_23)] [2, 3, 4, 5, 6, 0] rfl ?_
              exact ih _ _ _ _ _ h
            · have h := h.2 c_22
              refine k_sub [(0, .ref (adr X.G a 0 0)), (1, .int x1), (2, .int x2), (3, .ref (adr X.G a 0 6)), (4, .int x4), (5, .int x5), (6, .ref (adr X.G a 1 x5.toNatClampNeg))] [1, 2, 3, 4, 5, 6, 0] rfl ?_
              exact b_X11_over_70 hC hR hQ hr ih _ _ _ _ _ _ h
set_option maxHeartbeats 4000000 in
theorem b_X11_over {X : Kx} {a : Ax} {N : Nat} {post : Int32 → Sx → Prop} (hC : Cx X cX11_over 7 RX11) (hR : X.R = { frames := 3, cells := 0, slots := 0, locals := 70 }) (hQ : X.Q = MQ X.below (Qi X.G a post) X.av X.s 0 0 (bs_ X.G)) (hr : X.meth.sig.returnType = (some .int)) (hn : X.meth.name = "over") (s : Sx) (x1 : Int32) (h : w_X11_over N x1 s post) : wk X a s 7 0 [(0, .ref (adr X.G a 0 0)), (1, .int x1)] [] 0 0 := by
  unfold w_X11_over at h
  refine k_aload_n hC (pc := 0) dX11_over_0 0 rfl ?_
  refine gf_X11_0 hC (pc := 1)  fl_RX11_12 dX11_over_1 ?_
  refine k_iload_n hC (pc := 4) dX11_over_4 1 rfl ?_
  refine k_ci (rn_V hC (pc := 5) (As := [.int x1]) (rest := []) ca_X0_has ml_RX11_96 im_X0_has se_X0_has (fx_in f0_1) (ob0_1 _ _ _ _ _) rfl rfl (ct_X0_has x1 h) (by rw [hR]; exact ⟨rfl, rfl, by decide, by decide⟩) rfl (Nat.le_of_ble_eq_true rfl) dX11_over_5 ⟨by rw [hR]; decide, by rw [hR]; decide⟩) (fun r_2 s_1 h => ?_)
  refine k_if_ne hC (pc := 8) 13 dX11_over_8 (by decide) (fun c_3 => ?_) (fun c_3 => ?_)
  · have h := h.1 c_3
    refine k_bipush hC (pc := 13) (v := (-9)) dX11_over_13 bp_m9 ?_
    refine k_istore_n hC (pc := 15) dX11_over_15 [(2, .int ((-9))), (0, .ref (adr X.G a 0 0)), (1, .int x1)] (by decide) rfl ?_
    refine k_aload_n hC (pc := 16) dX11_over_16 1 rfl ?_
    refine gf_X11_2 hC (pc := 17)  fl_RX11_20 dX11_over_17 ?_
    refine k_astore_n hC (pc := 20) dX11_over_20 [(3, .ref (adr X.G a 0 6)), (2, .int ((-9))), (0, .ref (adr X.G a 0 0)), (1, .int x1)] (by decide) rfl ?_
    refine k_aload_n hC (pc := 21) dX11_over_21 0 rfl ?_
    refine r_lenP hC (pc := 22) dX11_over_22 ?_
    refine k_istore hC (pc := 23) dX11_over_23 [(4, .int 30), (3, .ref (adr X.G a 0 6)), (2, .int ((-9))), (0, .ref (adr X.G a 0 0)), (1, .int x1)] (by decide) rfl ?_
    refine k_iconst hC (pc := 25) (v := 0) dX11_over_25 ic_0 ?_
    refine k_istore hC (pc := 26) dX11_over_26 [(5, .int 0), (4, .int 30), (3, .ref (adr X.G a 0 6)), (2, .int ((-9))), (0, .ref (adr X.G a 0 0)), (1, .int x1)] (by decide) rfl ?_
    refine k_sub [(0, .ref (adr X.G a 0 0)), (1, .int x1), (2, .int ((-9))), (3, .ref (adr X.G a 0 6)), (4, .int 30), (5, .int 0)] [4, 5, 3, 2, 1, 0] rfl ?_
    exact b_X11_over_28 hC hR hQ hr N _ _ _ _ _ h
  · have h := h.2 c_3
    refine k_iconst hC (pc := 11) (v := (-1)) dX11_over_11 ic_m1 ?_
    exact k_iret hC (pc := 12) hQ hr dX11_over_12 h
theorem ct_X11_over {l : Launch} {G : Gx} {a : Ax} {s : Sx} {N : Nat} {post : Int32 → Sx → Prop} (x1 : Int32) (h : w_X11_over N x1 s post) : Met l yX11_over (Cond.code yX11_over cX11_over 7 (some .int) :: gw) { frames := 3, cells := 0, slots := 0, locals := 70 } (va_Pc [.ref (adr G a 0 0), .int x1] (fun U => FU G a s U)) (Qi G a post) 0 0 (bs_ G) := met_of (plainFor_of_name (by decide)) (Nat.le_of_ble_eq_true rfl) rfl (fun X hC hl hR hQ hr hG hn => by subst hG; exact b_X11_over hC hR hQ hr hn s x1 h)
theorem ca_X11_over : Ca yX11_over cX11_over 7 (some .int) 1 := ⟨cd_X11_over, ii_RX11, by decide, by decide, by decide +kernel⟩
def w_X11_sheetAt (N : Nat) (x1 : Int32) (s : Sx) (post : Option Nat → Sx → Prop) : Prop := w_X11_isWithin N x1 0 3 s (fun r_2 s_1 => (r_2 = 0 → post none s_1) ∧ (¬ (r_2 = 0) → vp_in x1 4 ∧ post (some x1.toNatClampNeg) s_1))
set_option maxHeartbeats 4000000 in
theorem b_X11_sheetAt {X : Kx} {a : Ax} {N : Nat} {post : Option Nat → Sx → Prop} (hC : Cx X cX11_sheetAt 2 RX11) (hR : X.R = { frames := 1, cells := 0, slots := 0, locals := 22 }) (hQ : X.Q = MQ X.below (Qq X.G a 0 42 post) X.av X.s 0 0 (bs_ X.G)) (hr : X.meth.sig.returnType = (some (.object "CampYears$Sheet"))) (hn : X.meth.name = "sheetAt") (s : Sx) (x1 : Int32) (h : w_X11_sheetAt N x1 s post) : wk X a s 2 0 [(0, .ref (adr X.G a 0 0)), (1, .int x1)] [] 0 0 := by
  unfold w_X11_sheetAt at h
  refine k_iload_n hC (pc := 0) dX11_sheetAt_0 1 rfl ?_
  refine k_iconst hC (pc := 1) (v := 0) dX11_sheetAt_1 ic_0 ?_
  refine k_iconst hC (pc := 2) (v := 3) dX11_sheetAt_2 ic_3 ?_
  refine k_ci (rn_S hC (pc := 3) (As := [.int x1, .int 0, .int 3]) (rest := []) ca_X11_isWithin ml_RX11_80 sm_X11_isWithin (ct_X11_isWithin x1 0 3 h) (by rw [hR]; exact ⟨rfl, rfl, by decide, by decide⟩) rfl (Nat.le_of_ble_eq_true rfl) dX11_sheetAt_3 ⟨by rw [hR]; decide, by rw [hR]; decide⟩) (fun r_2 s_1 h => ?_)
  refine k_if_eq hC (pc := 6) 18 dX11_sheetAt_6 (by decide) (fun c_3 => ?_) (fun c_3 => ?_)
  · have h := h.1 c_3
    refine k_null hC (pc := 18) dX11_sheetAt_18 ?_
    exact k_nret hC (pc := 19) hQ hr dX11_sheetAt_19 h
  · have h := h.2 c_3
    refine k_aload_n hC (pc := 9) dX11_sheetAt_9 0 rfl ?_
    refine gf_X11_13 hC (pc := 10)  fl_RX11_71 dX11_sheetAt_10 ?_
    refine k_iload_n hC (pc := 13) dX11_sheetAt_13 1 rfl ?_
    obtain ⟨c_4, h⟩ := h
    refine k_aldS hC (pc := 14) c_4 dX11_sheetAt_14 ?_
    refine k_goto hC (pc := 15) 19 dX11_sheetAt_15 (by decide) ?_
    exact k_rret hC (pc := 19) hQ hr dX11_sheetAt_19 h
theorem ct_X11_sheetAt {l : Launch} {G : Gx} {a : Ax} {s : Sx} {N : Nat} {post : Option Nat → Sx → Prop} (x1 : Int32) (h : w_X11_sheetAt N x1 s post) : Met l yX11_sheetAt (Cond.code yX11_sheetAt cX11_sheetAt 2 (some (.object "CampYears$Sheet")) :: gw) { frames := 1, cells := 0, slots := 0, locals := 22 } (va_Pc [.ref (adr G a 0 0), .int x1] (fun U => FU G a s U)) (Qq G a 0 42 post) 0 0 (bs_ G) := met_of (plainFor_of_name (by decide)) (Nat.le_of_ble_eq_true rfl) rfl (fun X hC hl hR hQ hr hG hn => by subst hG; exact b_X11_sheetAt hC hR hQ hr hn s x1 h)
theorem ca_X11_sheetAt : Ca yX11_sheetAt cX11_sheetAt 2 (some (.object "CampYears$Sheet")) 1 := ⟨cd_X11_sheetAt, ii_RX11, by decide, by decide, by decide +kernel⟩
def w_X11_isLane (N : Nat) (x0 : Int32) (s : Sx) (post : Int32 → Sx → Prop) : Prop := w_X11_isWithin N x0 0 2 s (fun r_2 s_1 => (r_2 = 0 ∨ r_2 = 1) ∧ post r_2 s_1)
set_option maxHeartbeats 4000000 in
theorem b_X11_isLane {X : Kx} {a : Ax} {N : Nat} {post : Int32 → Sx → Prop} (hC : Cx X cX11_isLane 1 RX11) (hR : X.R = { frames := 1, cells := 0, slots := 0, locals := 22 }) (hQ : X.Q = MQ X.below (Qi X.G a post) X.av X.s 0 0 (bs_ X.G)) (hr : X.meth.sig.returnType = (some .boolean)) (hn : X.meth.name = "isLane") (s : Sx) (x0 : Int32) (h : w_X11_isLane N x0 s post) : wk X a s 1 0 [(0, .int x0)] [] 0 0 := by
  unfold w_X11_isLane at h
  refine k_iload_n hC (pc := 0) dX11_isLane_0 0 rfl ?_
  refine k_iconst hC (pc := 1) (v := 0) dX11_isLane_1 ic_0 ?_
  refine k_iconst hC (pc := 2) (v := 2) dX11_isLane_2 ic_2 ?_
  refine k_ci (rn_S hC (pc := 3) (As := [.int x0, .int 0, .int 2]) (rest := []) ca_X11_isWithin ml_RX11_80 sm_X11_isWithin (ct_X11_isWithin x0 0 2 h) (by rw [hR]; exact ⟨rfl, rfl, by decide, by decide⟩) rfl (Nat.le_of_ble_eq_true rfl) dX11_isLane_3 ⟨by rw [hR]; decide, by rw [hR]; decide⟩) (fun r_2 s_1 h => ?_)
  obtain ⟨c_3, h⟩ := h
  exact k_zret hC (pc := 6) hQ hr dX11_isLane_6 c_3 h
theorem ct_X11_isLane {l : Launch} {G : Gx} {a : Ax} {s : Sx} {N : Nat} {post : Int32 → Sx → Prop} (x0 : Int32) (h : w_X11_isLane N x0 s post) : Met l yX11_isLane (Cond.code yX11_isLane cX11_isLane 1 (some .boolean) :: gw) { frames := 1, cells := 0, slots := 0, locals := 22 } (va_Pc [.int x0] (fun U => FU G a s U)) (Qi G a post) 0 0 (bs_ G) := met_of (plainFor_of_name (by decide)) (Nat.le_of_ble_eq_true rfl) rfl (fun X hC hl hR hQ hr hG hn => by subst hG; exact b_X11_isLane hC hR hQ hr hn s x0 h)
theorem ca_X11_isLane : Ca yX11_isLane cX11_isLane 1 (some .boolean) 1 := ⟨cd_X11_isLane, ii_RX11, by decide, by decide, by decide +kernel⟩
def w_X11_noteFault (N : Nat) (x1 : Int32) (s : Sx) (post : Int32 → Sx → Prop) : Prop := ∀ s_1, s_1 = setI s 0 0 14 x1 → (¬ x1 = 0 → post (((-10)) - x1) s_1) ∧ (¬ (¬ x1 = 0) → post 0 s_1)
set_option maxHeartbeats 4000000 in
theorem b_X11_noteFault {X : Kx} {a : Ax} {N : Nat} {post : Int32 → Sx → Prop} (hC : Cx X cX11_noteFault 2 RX11) (hR : X.R = { frames := 0, cells := 0, slots := 0, locals := 0 }) (hQ : X.Q = MQ X.below (Qi X.G a post) X.av X.s 0 0 (bs_ X.G)) (hr : X.meth.sig.returnType = (some .int)) (hn : X.meth.name = "noteFault") (s : Sx) (x1 : Int32) (h : w_X11_noteFault N x1 s post) : wk X a s 2 0 [(0, .ref (adr X.G a 0 0)), (1, .int x1)] [] 0 0 := by
  unfold w_X11_noteFault at h
  refine k_aload_n hC (pc := 0) dX11_noteFault_0 0 rfl ?_
  refine k_iload_n hC (pc := 1) dX11_noteFault_1 1 rfl ?_
  refine pf_X11_14 hC (pc := 2)  fl_RX11_136 dX11_noteFault_2 (fun s_1 h_s_1 => ?_)
  have h := h s_1 h_s_1
  refine k_iload_n hC (pc := 5) dX11_noteFault_5 1 rfl ?_
  refine k_if_ne hC (pc := 6) 13 dX11_noteFault_6 (by decide) (fun c_2 => ?_) (fun c_2 => ?_)
  · have h := h.1 c_2
    refine k_bipush hC (pc := 13) (v := (-10)) dX11_noteFault_13 bp_m10 ?_
    refine k_iload_n hC (pc := 15) dX11_noteFault_15 1 rfl ?_
    refine k_isub hC (pc := 16) dX11_noteFault_16 ?_
    exact k_iret hC (pc := 17) hQ hr dX11_noteFault_17 h
  · have h := h.2 c_2
    refine k_iconst hC (pc := 9) (v := 0) dX11_noteFault_9 ic_0 ?_
    refine k_goto hC (pc := 10) 17 dX11_noteFault_10 (by decide) ?_
    exact k_iret hC (pc := 17) hQ hr dX11_noteFault_17 h
theorem ct_X11_noteFault {l : Launch} {G : Gx} {a : Ax} {s : Sx} {N : Nat} {post : Int32 → Sx → Prop} (x1 : Int32) (h : w_X11_noteFault N x1 s post) : Met l yX11_noteFault (Cond.code yX11_noteFault cX11_noteFault 2 (some .int) :: gw) { frames := 0, cells := 0, slots := 0, locals := 0 } (va_Pc [.ref (adr G a 0 0), .int x1] (fun U => FU G a s U)) (Qi G a post) 0 0 (bs_ G) := met_of (plainFor_of_name (by decide)) (Nat.le_of_ble_eq_true rfl) rfl (fun X hC hl hR hQ hr hG hn => by subst hG; exact b_X11_noteFault hC hR hQ hr hn s x1 h)
theorem ca_X11_noteFault : Ca yX11_noteFault cX11_noteFault 2 (some .int) 1 := ⟨cd_X11_noteFault, ii_RX11, by decide, by decide, by decide +kernel⟩
def w_X11_order (N : Nat) (x1 : Int32) (x2 : Int32) (x3 : Int32) (x4 : Int32) (x5 : Int32) (s : Sx) (post : Int32 → Sx → Prop) : Prop := ∀ s_1, s_1 = setI s 0 0 14 0 → w_X11_sheetAt N x2 s_1 (fun o_3 s_2 => (o_3 = none → post ((-1)) s_2) ∧ (∀ j_4, o_3 = some j_4 → j_4 < 4 ∧ w_X11_isDay N x1 s_2 (fun r_6 s_5 => (r_6 = 0 → post ((-2)) s_5) ∧ (¬ (r_6 = 0) → w_X11_isLane N x3 s_5 (fun r_9 s_8 => (¬ r_9 = 0 → w_X7_faultOf N j_4 x3 x4 x5 s_8 (fun r_12 s_11 => w_X11_noteFault N r_12 s_11 (fun r_14 s_13 => (r_14 = 0 → ∀ s_16, s_16 = newD s_13 4 6 → w_X3_init N (s_13.2.2 6) j_4 x4 x5 (s_16.1 0 1 4) s_16 (fun s_18 => (s_13.2.2 6) < s_18.2.2 6 ∧ w_X3_readAll N (s_13.2.2 6) s_18 (fun s_19 => (s_13.2.2 6) < s_19.2.2 6 ∧ w_X3_isFaulty N (s_13.2.2 6) s_19 (fun r_21 s_20 => (r_21 = 0 → ((s_20.1 0 0 7) < 12 → s_20.2.2 3 ≤ s_20.2.2 2 ∧ ∀ s_24, s_24 = newD s_20 2 2 → w_X2_init N (s_20.2.2 2) (s_13.2.2 6) x1 s_24 (fun s_27 => (s_20.2.2 2) < s_27.2.2 2 ∧ (s_20.1 0 0 7).toNatClampNeg = s_27.2.2 3 ∧ (s_20.2.2 2) = s_27.2.2 3 ∧ vp_in (s_20.1 0 0 7) 12 ∧ ∀ s_32, s_32 = setN s_27 3 (s_27.2.2 3 + 1) → ∀ s_33, s_33 = setI s_32 0 0 7 ((s_32.1 0 0 7) + 1) → post ((s_33.1 0 0 7) - 1) s_33)) ∧ (¬ ((s_20.1 0 0 7) < 12) → post ((-4)) s_20)) ∧ (¬ (r_21 = 0) → (s_13.2.2 6) < s_20.2.2 6 ∧ post (((-100)) - (s_20.1 4 (s_13.2.2 6) 5)) s_20))))) ∧ (¬ (r_14 = 0) → post r_14 s_13)))) ∧ (¬ (¬ r_9 = 0) → post ((-2)) s_8))))))
set_option maxHeartbeats 4000000 in
theorem b_X11_order {X : Kx} {a : Ax} {N : Nat} {post : Int32 → Sx → Prop} (hC : Cx X cX11_order 9 RX11) (hR : X.R = { frames := 6, cells := 2, slots := 19, locals := 131 }) (hQ : X.Q = MQ X.below (Qa X.G post) X.av X.s 2 19 (bs_ X.G)) (hr : X.meth.sig.returnType = (some .int)) (hn : X.meth.name = "order") (s : Sx) (x1 : Int32) (x2 : Int32) (x3 : Int32) (x4 : Int32) (x5 : Int32) (h : w_X11_order N x1 x2 x3 x4 x5 s post) : wk X a s 9 0 [(0, .ref (adr X.G a 0 0)), (1, .int x1), (2, .int x2), (3, .int x3), (4, .int x4), (5, .int x5)] [] 0 0 := by
  unfold w_X11_order at h
  refine k_aload_n hC (pc := 0) dX11_order_0 0 rfl ?_
  refine k_iconst hC (pc := 1) (v := 0) dX11_order_1 ic_0 ?_
  refine pf_X11_14 hC (pc := 2)  fl_RX11_136 dX11_order_2 (fun s_1 h_s_1 => ?_)
  have h := h s_1 h_s_1
  refine k_aload_n hC (pc := 5) dX11_order_5 0 rfl ?_
  refine k_iload_n hC (pc := 6) dX11_order_6 2 rfl ?_
  refine k_cq (k := 0) (off := 42) (rn_V hC (pc := 7) (As := [.int x2]) (rest := []) ca_X11_sheetAt ml_RX11_139 im_X11_sheetAt se_X11_sheetAt (fx_in f0_0) (ob0_0 _ _ _ _ _) rfl rfl (ct_X11_sheetAt x2 h) (by rw [hR]; exact ⟨rfl, rfl, by decide, by decide⟩) rfl (Nat.le_of_ble_eq_true rfl) dX11_order_7 ⟨by rw [hR]; decide, by rw [hR]; decide⟩) (fun s_2 h => ?_) (fun j_4 s_2 h => ?_)
  · have h := h.1 rfl
    refine k_astoreN hC (pc := 10) dX11_order_10 [(6, .null), (0, .ref (adr X.G a 0 0)), (1, .int x1), (2, .int x2), (3, .int x3), (4, .int x4), (5, .int x5)] (by decide) rfl ?_
    refine k_aloadN hC (pc := 12) dX11_order_12 0 rfl ?_
    refine k_ifnonnullN hC (pc := 14) dX11_order_14 ?_
    refine k_iconst hC (pc := 17) (v := (-1)) dX11_order_17 ic_m1 ?_
    refine k_widen 2 19 (by decide) (by decide) ?_
    exact k_aret hC (pc := 18) hQ hr dX11_order_18 h
  · have h := h.2 j_4 rfl
    obtain ⟨hj_4, h⟩ := h
    refine k_astore hC (pc := 10) dX11_order_10 [(6, .ref (adr X.G a 0 (42 + j_4))), (0, .ref (adr X.G a 0 0)), (1, .int x1), (2, .int x2), (3, .int x3), (4, .int x4), (5, .int x5)] (by decide) rfl ?_
    refine k_aload hC (pc := 12) dX11_order_12 0 rfl ?_
    refine k_ifnonnull hC (pc := 14) 19 dX11_order_14 (by decide) ?_
    refine k_iload_n hC (pc := 19) dX11_order_19 2 rfl ?_
    refine k_ci (rn_S hC (pc := 20) (As := [.int x1]) (rest := []) ca_X11_isDay ml_RX11_114 sm_X11_isDay (ct_X11_isDay x1 h) (by rw [hR]; exact ⟨rfl, rfl, by decide, by decide⟩) rfl (Nat.le_of_ble_eq_true rfl) dX11_order_20 ⟨by rw [hR]; decide, by rw [hR]; decide⟩) (fun r_6 s_5 h => ?_)
    refine k_if_eq hC (pc := 23) 33 dX11_order_23 (by decide) (fun c_7 => ?_) (fun c_7 => ?_)
    · have h := h.1 c_7
      refine k_bipush hC (pc := 33) (v := (-2)) dX11_order_33 bp_m2 ?_
      refine k_widen 2 19 (by decide) (by decide) ?_
      exact k_aret hC (pc := 35) hQ hr dX11_order_35 h
    · have h := h.2 c_7
      refine k_iload_n hC (pc := 26) dX11_order_26 4 rfl ?_
      refine k_ci (rn_S hC (pc := 27) (As := [.int x3]) (rest := []) ca_X11_isLane ml_RX11_143 sm_X11_isLane (ct_X11_isLane x3 h) (by rw [hR]; exact ⟨rfl, rfl, by decide, by decide⟩) rfl (Nat.le_of_ble_eq_true rfl) dX11_order_27 ⟨by rw [hR]; decide, by rw [hR]; decide⟩) (fun r_9 s_8 h => ?_)
      refine k_if_ne hC (pc := 30) 36 dX11_order_30 (by decide) (fun c_10 => ?_) (fun c_10 => ?_)
      · have h := h.1 c_10
        refine k_aload_n hC (pc := 36) dX11_order_36 1 rfl ?_
        refine k_aload hC (pc := 37) dX11_order_37 0 rfl ?_
        refine k_iload_n hC (pc := 39) dX11_order_39 4 rfl ?_
        refine k_iload hC (pc := 40) dX11_order_40 5 rfl ?_
        refine k_iload hC (pc := 42) dX11_order_42 6 rfl ?_
        refine k_ci (rn_V hC (pc := 44) (As := [.int x3, .int x4, .int x5]) (rest := [.ref (adr X.G a 0 0)]) ca_X7_faultOf ml_RX11_146 im_X7_faultOf se_X7_faultOf (fx_in (sh_f hj_4)) (sh_o hj_4 _ _ _ _ _) rfl rfl (ct_X7_faultOf j_4 x3 x4 x5 h) (by rw [hR]; exact ⟨rfl, rfl, by decide, by decide⟩) rfl (Nat.le_of_ble_eq_true rfl) dX11_order_44 ⟨by rw [hR]; decide, by rw [hR]; decide⟩) (fun r_12 s_11 h => ?_)
        refine k_ci (rn_V hC (pc := 47) (As := [.int r_12]) (rest := []) ca_X11_noteFault ml_RX11_149 im_X11_noteFault se_X11_noteFault (fx_in f0_0) (ob0_0 _ _ _ _ _) rfl rfl (ct_X11_noteFault r_12 h) (by rw [hR]; exact ⟨rfl, rfl, by decide, by decide⟩) rfl (Nat.le_of_ble_eq_true rfl) dX11_order_47 ⟨by rw [hR]; decide, by rw [hR]; decide⟩) (fun r_14 s_13 h => ?_)
        refine k_istore hC (pc := 50) dX11_order_50 [(7, .int r_14), (6, .ref (adr X.G a 0 (42 + j_4))), (0, .ref (adr X.G a 0 0)), (1, .int x1), (2, .int x2), (3, .int x3), (4, .int x4), (5, .int x5)] (by decide) rfl ?_
        refine k_iload hC (pc := 52) dX11_order_52 0 rfl ?_
        refine k_if_eq hC (pc := 54) 60 dX11_order_54 (by decide) (fun c_15 => ?_) (fun c_15 => ?_)
        · have h := h.1 c_15
          refine r_newX3 hC (pc := 60)  cl_RX11_153 (by rw [hR]; decide) (by rw [hR]; decide) dX11_order_60 (fun a_17 h_a_17 s_16 h_s_16 => ?_)
          obtain ⟨q_a_17, rfl⟩ := h_a_17
          have h := h s_16 h_s_16
          refine k_dup hC (pc := 63) dX11_order_63 rfl ?_
          refine k_aload hC (pc := 64) dX11_order_64 1 rfl ?_
          refine k_iload hC (pc := 66) dX11_order_66 6 rfl ?_
          refine k_iload hC (pc := 68) dX11_order_68 7 rfl ?_
          refine k_aload_n hC (pc := 70) dX11_order_70 2 rfl ?_
          refine gf_X11_0 hC (pc := 71)  fl_RX11_12 dX11_order_71 ?_
          refine gf_X0_4 hC (pc := 74)  fl_RX11_155 dX11_order_74 ?_
          refine k_cv (rn_I hC (pc := 77) (As := [.ref (adr X.G a 0 (42 + j_4)), .int x4, .int x5, .int (s_16.1 0 1 4)]) (rest := [.ref (adr X.G (a.1, a.2.1, a.2.2.1, va_up a.2.2.2 (s_13.2.2 6) q_a_17) 4 (s_13.2.2 6))]) ca_X3_init rfl ml_RX11_158 im_X3_init (ct_X3_init (s_13.2.2 6) j_4 x4 x5 (s_16.1 0 1 4) h) (by rw [hR]; exact ⟨rfl, rfl, by decide, by decide⟩) rfl (Nat.le_of_ble_eq_true rfl) dX11_order_77 ⟨by rw [hR]; decide, by rw [hR]; decide⟩) (fun s_18 h => ?_)
          refine k_astore hC (pc := 80) dX11_order_80 [(8, .ref (adr X.G (a.1, a.2.1, a.2.2.1, va_up a.2.2.2 (s_13.2.2 6) q_a_17) 4 (s_13.2.2 6))), (7, .int r_14), (6, .ref (adr X.G a 0 (42 + j_4))), (0, .ref (adr X.G a 0 0)), (1, .int x1), (2, .int x2), (3, .int x3), (4, .int x4), (5, .int x5)] (by decide) rfl ?_
          refine k_aload hC (pc := 82) dX11_order_82 0 rfl ?_
          refine k_cv (rn_V hC (pc := 84) (As := []) (rest := []) ca_X3_readAll ml_RX11_161 im_X3_readAll se_X3_readAll (rx_in h.1) (ob4 _ _ _ _ _ _) rfl rfl (ct_X3_readAll (s_13.2.2 6) h.2) (by rw [hR]; exact ⟨rfl, rfl, by decide, by decide⟩) rfl (Nat.le_of_ble_eq_true rfl) dX11_order_84 ⟨by rw [hR]; decide, by rw [hR]; decide⟩) (fun s_19 h => ?_)
          refine k_aload hC (pc := 87) dX11_order_87 0 rfl ?_
          refine k_ci (rn_V hC (pc := 89) (As := []) (rest := []) ca_X3_isFaulty ml_RX11_164 im_X3_isFaulty se_X3_isFaulty (rx_in h.1) (ob4 _ _ _ _ _ _) rfl rfl (ct_X3_isFaulty (s_13.2.2 6) h.2) (by rw [hR]; exact ⟨rfl, rfl, by decide, by decide⟩) rfl (Nat.le_of_ble_eq_true rfl) dX11_order_89 ⟨by rw [hR]; decide, by rw [hR]; decide⟩) (fun r_21 s_20 h => ?_)
          refine k_if_eq hC (pc := 92) 104 dX11_order_92 (by decide) (fun c_22 => ?_) (fun c_22 => ?_)
          · have h := h.1 c_22
            refine k_aload_n hC (pc := 104) dX11_order_104 3 rfl ?_
            refine gf_X11_7 hC (pc := 105)  fl_RX11_171 dX11_order_105 ?_
            refine k_bipush hC (pc := 108) (v := 12) dX11_order_108 bp_12 ?_
            refine k_icmp_lt hC (pc := 110) 116 dX11_order_110 (by decide) (fun c_23 => ?_) (fun c_23 => ?_)
            · have h := h.1 c_23
              refine k_aload_n hC (pc := 116) dX11_order_116 3 rfl ?_
              refine gf_X11_6 hC (pc := 117)  fl_RX11_30 dX11_order_117 ?_
              refine k_aload_n hC (pc := 120) dX11_order_120 3 rfl ?_
              refine gf_X11_7 hC (pc := 121)  fl_RX11_171 dX11_order_121 ?_
              obtain ⟨c_26, h⟩ := h
              refine r_newX2 hC (pc := 124) c_26 cl_RX11_28 (by rw [hR]; decide) (by rw [hR]; decide) dX11_order_124 (fun a_25 h_a_25 s_24 h_s_24 => ?_)
              obtain ⟨q_a_25, rfl⟩ := h_a_25
              have h := h s_24 h_s_24
              refine k_dup hC (pc := 127) dX11_order_127 rfl ?_
              refine k_aload hC (pc := 128) dX11_order_128 0 rfl ?_
              refine k_iload_n hC (pc := 130) dX11_order_130 4 rfl ?_
              refine k_cv (rn_I hC (pc := 131) (As := [.ref (adr X.G (a.1, a.2.1, a.2.2.1, va_up a.2.2.2 (s_13.2.2 6) q_a_17) 4 (s_13.2.2 6)), .int x1]) (rest := [.ref (adr X.G ((a.1, a.2.1, a.2.2.1, va_up a.2.2.2 (s_13.2.2 6) q_a_17).1, va_up (a.1, a.2.1, a.2.2.1, va_up a.2.2.2 (s_13.2.2 6) q_a_17).2.1 (s_20.2.2 2) q_a_25, (a.1, a.2.1, a.2.2.1, va_up a.2.2.2 (s_13.2.2 6) q_a_17).2.2) 2 (s_20.2.2 2)), .int (s_20.1 0 0 7), .ref (adr X.G a 0 8)]) ca_X2_init rfl ml_RX11_174 im_X2_init (ct_X2_init (s_20.2.2 2) (s_13.2.2 6) x1 h) (by rw [hR]; exact ⟨rfl, rfl, by decide, by decide⟩) rfl (Nat.le_of_ble_eq_true rfl) dX11_order_131 ⟨by rw [hR]; decide, by rw [hR]; decide⟩) (fun s_27 h => ?_)
              obtain ⟨c_28, c_29, c_30, c_31, h⟩ := h
              refine r_astO hC (pc := 134) c_28 c_29 c_30 c_31 dX11_order_134 (fun s_32 h_s_32 => ?_)
              have h := h s_32 h_s_32
              refine k_aload_n hC (pc := 135) dX11_order_135 3 rfl ?_
              refine k_dup hC (pc := 136) dX11_order_136 rfl ?_
              refine gf_X11_7 hC (pc := 137)  fl_RX11_171 dX11_order_137 ?_
              refine k_iconst hC (pc := 140) (v := 1) dX11_order_140 ic_1 ?_
              refine k_iadd hC (pc := 141) dX11_order_141 ?_
              refine pf_X11_7 hC (pc := 142)  fl_RX11_171 dX11_order_142 (fun s_33 h_s_33 => ?_)
              have h := h s_33 h_s_33
              refine k_aload_n hC (pc := 145) dX11_order_145 3 rfl ?_
              refine gf_X11_7 hC (pc := 146)  fl_RX11_171 dX11_order_146 ?_
              refine k_iconst hC (pc := 149) (v := 1) dX11_order_149 ic_1 ?_
              refine k_isub hC (pc := 150) dX11_order_150 ?_
              exact k_aret hC (pc := 151) hQ hr dX11_order_151 h
            · have h := h.2 c_23
              refine k_bipush hC (pc := 113) (v := (-4)) dX11_order_113 bp_m4 ?_
              refine k_widen 2 19 (by decide) (by decide) ?_
              exact k_aret hC (pc := 115) hQ hr dX11_order_115 h
          · have h := h.2 c_22
            refine k_bipush hC (pc := 95) (v := (-100)) dX11_order_95 bp_m100 ?_
            refine k_aload hC (pc := 97) dX11_order_97 0 rfl ?_
            obtain ⟨c_34, h⟩ := h
            refine gf_X3_5 hC (pc := 99) c_34 fl_RX11_168 dX11_order_99 ?_
            refine k_isub hC (pc := 102) dX11_order_102 ?_
            refine k_widen 2 19 (by decide) (by decide) ?_
            exact k_aret hC (pc := 103) hQ hr dX11_order_103 h
        · have h := h.2 c_15
          refine k_iload hC (pc := 57) dX11_order_57 0 rfl ?_
          refine k_widen 2 19 (by decide) (by decide) ?_
          exact k_aret hC (pc := 59) hQ hr dX11_order_59 h
      · have h := h.2 c_10
        refine k_bipush hC (pc := 33) (v := (-2)) dX11_order_33 bp_m2 ?_
        refine k_widen 2 19 (by decide) (by decide) ?_
        exact k_aret hC (pc := 35) hQ hr dX11_order_35 h
theorem ct_X11_order {l : Launch} {G : Gx} {a : Ax} {s : Sx} {N : Nat} {post : Int32 → Sx → Prop} (x1 : Int32) (x2 : Int32) (x3 : Int32) (x4 : Int32) (x5 : Int32) (h : w_X11_order N x1 x2 x3 x4 x5 s post) : Met l yX11_order (Cond.code yX11_order cX11_order 9 (some .int) :: gw) { frames := 6, cells := 2, slots := 19, locals := 131 } (va_Pc [.ref (adr G a 0 0), .int x1, .int x2, .int x3, .int x4, .int x5] (fun U => FU G a s U)) (Qa G post) 2 19 (bs_ G) := met_of (plainFor_of_name (by decide)) (Nat.le_of_ble_eq_true rfl) rfl (fun X hC hl hR hQ hr hG hn => by subst hG; exact b_X11_order hC hR hQ hr hn s x1 x2 x3 x4 x5 h)
theorem ca_X11_order : Ca yX11_order cX11_order 9 (some .int) 5 := ⟨cd_X11_order, ii_RX11, by decide, by decide, by decide +kernel⟩
def w_X11_orderAt (N : Nat) (x1 : Int32) (s : Sx) (post : Option Nat → Sx → Prop) : Prop := w_X11_isWithin N x1 0 11 s (fun r_2 s_1 => (r_2 = 0 → post none s_1) ∧ (¬ (r_2 = 0) → vp_in x1 12 ∧ (¬ x1.toNatClampNeg < s_1.2.2 3 → post none s_1) ∧ (x1.toNatClampNeg < s_1.2.2 3 → post (some x1.toNatClampNeg) s_1)))
set_option maxHeartbeats 4000000 in
theorem b_X11_orderAt {X : Kx} {a : Ax} {N : Nat} {post : Option Nat → Sx → Prop} (hC : Cx X cX11_orderAt 2 RX11) (hR : X.R = { frames := 1, cells := 0, slots := 0, locals := 22 }) (hQ : X.Q = MQ X.below (Qq X.G a 2 0 post) X.av X.s 0 0 (bs_ X.G)) (hr : X.meth.sig.returnType = (some (.object "CampYears$Order"))) (hn : X.meth.name = "orderAt") (s : Sx) (x1 : Int32) (h : w_X11_orderAt N x1 s post) : wk X a s 2 0 [(0, .ref (adr X.G a 0 0)), (1, .int x1)] [] 0 0 := by
  unfold w_X11_orderAt at h
  refine k_iload_n hC (pc := 0) dX11_orderAt_0 1 rfl ?_
  refine k_iconst hC (pc := 1) (v := 0) dX11_orderAt_1 ic_0 ?_
  refine k_bipush hC (pc := 2) (v := 11) dX11_orderAt_2 bp_11 ?_
  refine k_ci (rn_S hC (pc := 4) (As := [.int x1, .int 0, .int 11]) (rest := []) ca_X11_isWithin ml_RX11_80 sm_X11_isWithin (ct_X11_isWithin x1 0 11 h) (by rw [hR]; exact ⟨rfl, rfl, by decide, by decide⟩) rfl (Nat.le_of_ble_eq_true rfl) dX11_orderAt_4 ⟨by rw [hR]; decide, by rw [hR]; decide⟩) (fun r_2 s_1 h => ?_)
  refine k_if_eq hC (pc := 7) 19 dX11_orderAt_7 (by decide) (fun c_3 => ?_) (fun c_3 => ?_)
  · have h := h.1 c_3
    refine k_null hC (pc := 19) dX11_orderAt_19 ?_
    exact k_nret hC (pc := 20) hQ hr dX11_orderAt_20 h
  · have h := h.2 c_3
    refine k_aload_n hC (pc := 10) dX11_orderAt_10 0 rfl ?_
    refine gf_X11_6 hC (pc := 11)  fl_RX11_30 dX11_orderAt_11 ?_
    refine k_iload_n hC (pc := 14) dX11_orderAt_14 1 rfl ?_
    obtain ⟨c_4, h⟩ := h
    refine r_aldO hC (pc := 15) c_4 dX11_orderAt_15 (fun c_5 => ?_) (fun c_5 => ?_)
    · have h := h.1 c_5
      refine k_goto hC (pc := 16) 20 dX11_orderAt_16 (by decide) ?_
      exact k_nret hC (pc := 20) hQ hr dX11_orderAt_20 h
    · have h := h.2 c_5
      refine k_goto hC (pc := 16) 20 dX11_orderAt_16 (by decide) ?_
      exact k_rret0 hC (pc := 20) hQ hr dX11_orderAt_20 h
theorem ct_X11_orderAt {l : Launch} {G : Gx} {a : Ax} {s : Sx} {N : Nat} {post : Option Nat → Sx → Prop} (x1 : Int32) (h : w_X11_orderAt N x1 s post) : Met l yX11_orderAt (Cond.code yX11_orderAt cX11_orderAt 2 (some (.object "CampYears$Order")) :: gw) { frames := 1, cells := 0, slots := 0, locals := 22 } (va_Pc [.ref (adr G a 0 0), .int x1] (fun U => FU G a s U)) (Qq G a 2 0 post) 0 0 (bs_ G) := met_of (plainFor_of_name (by decide)) (Nat.le_of_ble_eq_true rfl) rfl (fun X hC hl hR hQ hr hG hn => by subst hG; exact b_X11_orderAt hC hR hQ hr hn s x1 h)
theorem ca_X11_orderAt : Ca yX11_orderAt cX11_orderAt 2 (some (.object "CampYears$Order")) 1 := ⟨cd_X11_orderAt, ii_RX11, by decide, by decide, by decide +kernel⟩
def w_X11_ofOrder (N : Nat) (x1 : Int32) (x2 : Int32) (s : Sx) (post : Int32 → Sx → Prop) : Prop := w_X11_orderAt N x1 s (fun o_2 s_1 => (o_2 = none → post ((-1)) s_1) ∧ (∀ j_3, o_2 = some j_3 → j_3 < s_1.2.2 2 ∧ w_X2_fact N j_3 x2 s_1 (fun r_5 s_4 => post r_5 s_4)))
set_option maxHeartbeats 4000000 in
theorem b_X11_ofOrder {X : Kx} {a : Ax} {N : Nat} {post : Int32 → Sx → Prop} (hC : Cx X cX11_ofOrder 4 RX11) (hR : X.R = { frames := 2, cells := 0, slots := 0, locals := 43 }) (hQ : X.Q = MQ X.below (Qi X.G a post) X.av X.s 0 0 (bs_ X.G)) (hr : X.meth.sig.returnType = (some .int)) (hn : X.meth.name = "ofOrder") (s : Sx) (x1 : Int32) (x2 : Int32) (h : w_X11_ofOrder N x1 x2 s post) : wk X a s 4 0 [(0, .ref (adr X.G a 0 0)), (1, .int x1), (2, .int x2)] [] 0 0 := by
  unfold w_X11_ofOrder at h
  refine k_aload_n hC (pc := 0) dX11_ofOrder_0 0 rfl ?_
  refine k_iload_n hC (pc := 1) dX11_ofOrder_1 1 rfl ?_
  refine k_cq (k := 2) (off := 0) (rn_V hC (pc := 2) (As := [.int x1]) (rest := []) ca_X11_orderAt ml_RX11_177 im_X11_orderAt se_X11_orderAt (fx_in f0_0) (ob0_0 _ _ _ _ _) rfl rfl (ct_X11_orderAt x1 h) (by rw [hR]; exact ⟨rfl, rfl, by decide, by decide⟩) rfl (Nat.le_of_ble_eq_true rfl) dX11_ofOrder_2 ⟨by rw [hR]; decide, by rw [hR]; decide⟩) (fun s_1 h => ?_) (fun j_3 s_1 h => ?_)
  · have h := h.1 rfl
    refine k_astore_nN hC (pc := 5) dX11_ofOrder_5 [(3, .null), (0, .ref (adr X.G a 0 0)), (1, .int x1), (2, .int x2)] (by decide) rfl ?_
    refine k_aload_nN hC (pc := 6) dX11_ofOrder_6 0 rfl ?_
    refine k_ifnonnullN hC (pc := 7) dX11_ofOrder_7 ?_
    refine k_iconst hC (pc := 10) (v := (-1)) dX11_ofOrder_10 ic_m1 ?_
    refine k_goto hC (pc := 11) 19 dX11_ofOrder_11 (by decide) ?_
    exact k_iret hC (pc := 19) hQ hr dX11_ofOrder_19 h
  · have h := h.2 j_3 rfl
    refine k_eqz ?_
    refine k_astore_n hC (pc := 5) dX11_ofOrder_5 [(3, .ref (adr X.G a 2 j_3)), (0, .ref (adr X.G a 0 0)), (1, .int x1), (2, .int x2)] (by decide) rfl ?_
    refine k_aload_n hC (pc := 6) dX11_ofOrder_6 0 rfl ?_
    refine k_ifnonnull hC (pc := 7) 14 dX11_ofOrder_7 (by decide) ?_
    refine k_aload_n hC (pc := 14) dX11_ofOrder_14 0 rfl ?_
    refine k_iload_n hC (pc := 15) dX11_ofOrder_15 3 rfl ?_
    refine k_ci (rn_V hC (pc := 16) (As := [.int x2]) (rest := []) ca_X2_fact ml_RX11_181 im_X2_fact se_X2_fact (ox_in h.1) (ob2 _ _ _ _ _ _) rfl rfl (ct_X2_fact j_3 x2 h.2) (by rw [hR]; exact ⟨rfl, rfl, by decide, by decide⟩) rfl (Nat.le_of_ble_eq_true rfl) dX11_ofOrder_16 ⟨by rw [hR]; decide, by rw [hR]; decide⟩) (fun r_5 s_4 h => ?_)
    exact k_iret hC (pc := 19) hQ hr dX11_ofOrder_19 h
theorem ct_X11_ofOrder {l : Launch} {G : Gx} {a : Ax} {s : Sx} {N : Nat} {post : Int32 → Sx → Prop} (x1 : Int32) (x2 : Int32) (h : w_X11_ofOrder N x1 x2 s post) : Met l yX11_ofOrder (Cond.code yX11_ofOrder cX11_ofOrder 4 (some .int) :: gw) { frames := 2, cells := 0, slots := 0, locals := 43 } (va_Pc [.ref (adr G a 0 0), .int x1, .int x2] (fun U => FU G a s U)) (Qi G a post) 0 0 (bs_ G) := met_of (plainFor_of_name (by decide)) (Nat.le_of_ble_eq_true rfl) rfl (fun X hC hl hR hQ hr hG hn => by subst hG; exact b_X11_ofOrder hC hR hQ hr hn s x1 x2 h)
theorem ca_X11_ofOrder : Ca yX11_ofOrder cX11_ofOrder 4 (some .int) 2 := ⟨cd_X11_ofOrder, ii_RX11, by decide, by decide, by decide +kernel⟩
def w_X11_isOffice (N : Nat) (x0 : Int32) (s : Sx) (post : Int32 → Sx → Prop) : Prop := w_X11_isWithin N x0 0 4 s (fun r_2 s_1 => (r_2 = 0 ∨ r_2 = 1) ∧ post r_2 s_1)
set_option maxHeartbeats 4000000 in
theorem b_X11_isOffice {X : Kx} {a : Ax} {N : Nat} {post : Int32 → Sx → Prop} (hC : Cx X cX11_isOffice 1 RX11) (hR : X.R = { frames := 1, cells := 0, slots := 0, locals := 22 }) (hQ : X.Q = MQ X.below (Qi X.G a post) X.av X.s 0 0 (bs_ X.G)) (hr : X.meth.sig.returnType = (some .boolean)) (hn : X.meth.name = "isOffice") (s : Sx) (x0 : Int32) (h : w_X11_isOffice N x0 s post) : wk X a s 1 0 [(0, .int x0)] [] 0 0 := by
  unfold w_X11_isOffice at h
  refine k_iload_n hC (pc := 0) dX11_isOffice_0 0 rfl ?_
  refine k_iconst hC (pc := 1) (v := 0) dX11_isOffice_1 ic_0 ?_
  refine k_iconst hC (pc := 2) (v := 4) dX11_isOffice_2 ic_4 ?_
  refine k_ci (rn_S hC (pc := 3) (As := [.int x0, .int 0, .int 4]) (rest := []) ca_X11_isWithin ml_RX11_80 sm_X11_isWithin (ct_X11_isWithin x0 0 4 h) (by rw [hR]; exact ⟨rfl, rfl, by decide, by decide⟩) rfl (Nat.le_of_ble_eq_true rfl) dX11_isOffice_3 ⟨by rw [hR]; decide, by rw [hR]; decide⟩) (fun r_2 s_1 h => ?_)
  obtain ⟨c_3, h⟩ := h
  exact k_zret hC (pc := 6) hQ hr dX11_isOffice_6 c_3 h
theorem ct_X11_isOffice {l : Launch} {G : Gx} {a : Ax} {s : Sx} {N : Nat} {post : Int32 → Sx → Prop} (x0 : Int32) (h : w_X11_isOffice N x0 s post) : Met l yX11_isOffice (Cond.code yX11_isOffice cX11_isOffice 1 (some .boolean) :: gw) { frames := 1, cells := 0, slots := 0, locals := 22 } (va_Pc [.int x0] (fun U => FU G a s U)) (Qi G a post) 0 0 (bs_ G) := met_of (plainFor_of_name (by decide)) (Nat.le_of_ble_eq_true rfl) rfl (fun X hC hl hR hQ hr hG hn => by subst hG; exact b_X11_isOffice hC hR hQ hr hn s x0 h)
theorem ca_X11_isOffice : Ca yX11_isOffice cX11_isOffice 1 (some .boolean) 1 := ⟨cd_X11_isOffice, ii_RX11, by decide, by decide, by decide +kernel⟩
def w_X11_delay (N : Nat) (x1 : Int32) (x2 : Int32) (s : Sx) (post : Int32 → Sx → Prop) : Prop := w_X11_isOffice N x1 s (fun r_2 s_1 => (¬ r_2 = 0 → w_X11_isWithin N x2 0 30 s_1 (fun r_5 s_4 => (¬ r_5 = 0 → vp_in x1 5 ∧ ∀ x_8 : Int32, x_8 = s_4.1 0 7 x1.toNatClampNeg → vp_in x1 5 ∧ ∀ s_10, s_10 = setI s_4 0 7 x1.toNatClampNeg x2 → post x_8 s_10) ∧ (¬ (¬ r_5 = 0) → post ((-2)) s_4))) ∧ (¬ (¬ r_2 = 0) → post ((-1)) s_1))
set_option maxHeartbeats 4000000 in
theorem b_X11_delay {X : Kx} {a : Ax} {N : Nat} {post : Int32 → Sx → Prop} (hC : Cx X cX11_delay 4 RX11) (hR : X.R = { frames := 2, cells := 0, slots := 0, locals := 42 }) (hQ : X.Q = MQ X.below (Qi X.G a post) X.av X.s 0 0 (bs_ X.G)) (hr : X.meth.sig.returnType = (some .int)) (hn : X.meth.name = "delay") (s : Sx) (x1 : Int32) (x2 : Int32) (h : w_X11_delay N x1 x2 s post) : wk X a s 4 0 [(0, .ref (adr X.G a 0 0)), (1, .int x1), (2, .int x2)] [] 0 0 := by
  unfold w_X11_delay at h
  refine k_iload_n hC (pc := 0) dX11_delay_0 1 rfl ?_
  refine k_ci (rn_S hC (pc := 1) (As := [.int x1]) (rest := []) ca_X11_isOffice ml_RX11_184 sm_X11_isOffice (ct_X11_isOffice x1 h) (by rw [hR]; exact ⟨rfl, rfl, by decide, by decide⟩) rfl (Nat.le_of_ble_eq_true rfl) dX11_delay_1 ⟨by rw [hR]; decide, by rw [hR]; decide⟩) (fun r_2 s_1 h => ?_)
  refine k_if_ne hC (pc := 4) 9 dX11_delay_4 (by decide) (fun c_3 => ?_) (fun c_3 => ?_)
  · have h := h.1 c_3
    refine k_iload_n hC (pc := 9) dX11_delay_9 2 rfl ?_
    refine k_iconst hC (pc := 10) (v := 0) dX11_delay_10 ic_0 ?_
    refine k_bipush hC (pc := 11) (v := 30) dX11_delay_11 bp_30 ?_
    refine k_ci (rn_S hC (pc := 13) (As := [.int x2, .int 0, .int 30]) (rest := []) ca_X11_isWithin ml_RX11_80 sm_X11_isWithin (ct_X11_isWithin x2 0 30 h) (by rw [hR]; exact ⟨rfl, rfl, by decide, by decide⟩) rfl (Nat.le_of_ble_eq_true rfl) dX11_delay_13 ⟨by rw [hR]; decide, by rw [hR]; decide⟩) (fun r_5 s_4 h => ?_)
    refine k_if_ne hC (pc := 16) 22 dX11_delay_16 (by decide) (fun c_6 => ?_) (fun c_6 => ?_)
    · have h := h.1 c_6
      refine k_aload_n hC (pc := 22) dX11_delay_22 0 rfl ?_
      refine gf_X11_5 hC (pc := 23)  fl_RX11_24 dX11_delay_23 ?_
      refine k_iload_n hC (pc := 26) dX11_delay_26 1 rfl ?_
      obtain ⟨c_7, h⟩ := h
      refine r_iald hC (pc := 27) ra0_7 c_7 dX11_delay_27 ?_
      refine k_topi (fun x_8 h_x_8 => ?_)
      have h := h x_8 h_x_8
      refine k_istore_n hC (pc := 28) dX11_delay_28 [(3, .int x_8), (0, .ref (adr X.G a 0 0)), (1, .int x1), (2, .int x2)] (by decide) rfl ?_
      refine k_aload_n hC (pc := 29) dX11_delay_29 1 rfl ?_
      refine gf_X11_5 hC (pc := 30)  fl_RX11_24 dX11_delay_30 ?_
      refine k_iload_n hC (pc := 33) dX11_delay_33 2 rfl ?_
      refine k_iload_n hC (pc := 34) dX11_delay_34 3 rfl ?_
      obtain ⟨c_9, h⟩ := h
      refine r_iast hC (pc := 35) ra0_7 c_9 dX11_delay_35 (fun s_10 h_s_10 => ?_)
      have h := h s_10 h_s_10
      refine k_iload_n hC (pc := 36) dX11_delay_36 0 rfl ?_
      exact k_iret hC (pc := 37) hQ hr dX11_delay_37 h
    · have h := h.2 c_6
      refine k_bipush hC (pc := 19) (v := (-2)) dX11_delay_19 bp_m2 ?_
      exact k_iret hC (pc := 21) hQ hr dX11_delay_21 h
  · have h := h.2 c_3
    refine k_iconst hC (pc := 7) (v := (-1)) dX11_delay_7 ic_m1 ?_
    exact k_iret hC (pc := 8) hQ hr dX11_delay_8 h
theorem ct_X11_delay {l : Launch} {G : Gx} {a : Ax} {s : Sx} {N : Nat} {post : Int32 → Sx → Prop} (x1 : Int32) (x2 : Int32) (h : w_X11_delay N x1 x2 s post) : Met l yX11_delay (Cond.code yX11_delay cX11_delay 4 (some .int) :: gw) { frames := 2, cells := 0, slots := 0, locals := 42 } (va_Pc [.ref (adr G a 0 0), .int x1, .int x2] (fun U => FU G a s U)) (Qi G a post) 0 0 (bs_ G) := met_of (plainFor_of_name (by decide)) (Nat.le_of_ble_eq_true rfl) rfl (fun X hC hl hR hQ hr hG hn => by subst hG; exact b_X11_delay hC hR hQ hr hn s x1 x2 h)
theorem ca_X11_delay : Ca yX11_delay cX11_delay 4 (some .int) 2 := ⟨cd_X11_delay, ii_RX11, by decide, by decide, by decide +kernel⟩
def w_X11_latestHeard_4 (N : Nat) (post : Int32 → Sx → Prop) : Nat → Sx → Int32 → Int32 → Int32 → Int32 → Int32 → Prop
  | 0, _, _, _, _, _, _ => False
  | n + 1, s, x1, x2, x3, x4, x5 => (x5 < 0 → post ((-9)) s) ∧ (¬ (x5 < 0) → vp_in x5 12 ∧ (¬ x5.toNatClampNeg < s.2.2 3 → ∀ x_4 : Int32, x_4 = x5 + (-1) → w_X11_latestHeard_4 N post n s x1 x2 x3 x4 x_4) ∧ (x5.toNatClampNeg < s.2.2 3 → x5.toNatClampNeg < s.2.2 2 ∧ vp_in x4 5 ∧ (x3 < ((s.1 2 x5.toNatClampNeg 6) + (s.1 0 7 x4.toNatClampNeg)) → ∀ x_8 : Int32, x_8 = x5 + (-1) → w_X11_latestHeard_4 N post n s x1 x2 x3 x4 x_8) ∧ (¬ (x3 < ((s.1 2 x5.toNatClampNeg 6) + (s.1 0 7 x4.toNatClampNeg))) → x5.toNatClampNeg < s.2.2 2 ∧ w_X2_tellsOf N x5.toNatClampNeg x1 x2 x3 s (fun r_10 s_9 => (r_10 = 0 → ∀ x_12 : Int32, x_12 = x5 + (-1) → w_X11_latestHeard_4 N post n s_9 x1 x2 x3 x4 x_12) ∧ (¬ (r_10 = 0) → post x5 s_9)))))
def w_X11_latestHeard (N : Nat) (x1 : Int32) (x2 : Int32) (x3 : Int32) (x4 : Int32) (s : Sx) (post : Int32 → Sx → Prop) : Prop := w_X11_latestHeard_4 N post N s x1 x2 x3 x4 11
set_option maxHeartbeats 4000000 in
theorem b_X11_latestHeard_4 {X : Kx} {a : Ax} {N : Nat} {post : Int32 → Sx → Prop}  (hC : Cx X cX11_latestHeard 7 RX11) (hR : X.R = { frames := 2, cells := 0, slots := 0, locals := 45 }) (hQ : X.Q = MQ X.below (Qi X.G a post) X.av X.s 0 0 (bs_ X.G)) (hr : X.meth.sig.returnType = (some .int))   : ∀ (n : Nat) (s : Sx) (x1 : Int32) (x2 : Int32) (x3 : Int32) (x4 : Int32) (x5 : Int32), w_X11_latestHeard_4 N post  n s x1 x2 x3 x4 x5 → wk X a s 7 4 [(0, .ref (adr X.G a 0 0)), (1, .int x1), (2, .int x2), (3, .int x3), (4, .int x4), (5, .int x5)] [] 0 0 := by
  intro n
  induction n with
  | zero => intro s x1 x2 x3 x4 x5 h; exact h.elim
  | succ n ih =>
    intro s x1 x2 x3 x4 x5 h
    unfold w_X11_latestHeard_4 at h
    refine k_iload hC (pc := 4) dX11_latestHeard_4 5 rfl ?_
    refine k_if_lt hC (pc := 6) 60 dX11_latestHeard_6 (by decide) (fun c_1 => ?_) (fun c_1 => ?_)
    · have h := h.1 c_1
      refine k_bipush hC (pc := 60) (v := (-9)) dX11_latestHeard_60 bp_m9 ?_
      exact k_iret hC (pc := 62) hQ hr dX11_latestHeard_62 h
    · have h := h.2 c_1
      refine k_aload_n hC (pc := 9) dX11_latestHeard_9 0 rfl ?_
      refine gf_X11_6 hC (pc := 10)  fl_RX11_30 dX11_latestHeard_10 ?_
      refine k_iload hC (pc := 13) dX11_latestHeard_13 5 rfl ?_
      obtain ⟨c_2, h⟩ := h
      refine r_aldO hC (pc := 15) c_2 dX11_latestHeard_15 (fun c_3 => ?_) (fun c_3 => ?_)
      · have h := h.1 c_3
        refine k_astoreN hC (pc := 16) dX11_latestHeard_16 [(6, .null), (0, .ref (adr X.G a 0 0)), (1, .int x1), (2, .int x2), (3, .int x3), (4, .int x4), (5, .int x5)] (by decide) rfl ?_
        refine k_aloadN hC (pc := 18) dX11_latestHeard_18 0 rfl ?_
        refine k_ifnullN hC (pc := 20) 54 dX11_latestHeard_20 (by decide) ?_
        obtain ⟨x_4, h_x_4⟩ : ∃ z : Int32, z = x5 + (-1) := ⟨_, rfl⟩
        have h := h x_4 h_x_4
        refine k_iincw hC (pc := 54) dX11_latestHeard_54 6 rfl ic_m1 h_x_4.symm [(5, .int x_4), (6, .null), (0, .ref (adr X.G a 0 0)), (1, .int x1), (2, .int x2), (3, .int x3), (4, .int x4)] (by decide) rfl ?_
        refine k_goto hC (pc := 57) 4 dX11_latestHeard_57 (by decide) ?_
        refine k_sub [(0, .ref (adr X.G a 0 0)), (1, .int x1), (2, .int x2), (3, .int x3), (4, .int x4), (5, .int x_4)] [2, 3, 4, 5, 6, 0] rfl ?_
        exact ih _ _ _ _ _ _ h
      · have h := h.2 c_3
        refine k_astore hC (pc := 16) dX11_latestHeard_16 [(6, .ref (adr X.G a 2 x5.toNatClampNeg)), (0, .ref (adr X.G a 0 0)), (1, .int x1), (2, .int x2), (3, .int x3), (4, .int x4), (5, .int x5)] (by decide) rfl ?_
        refine k_aload hC (pc := 18) dX11_latestHeard_18 0 rfl ?_
        refine k_ifnull hC (pc := 20) dX11_latestHeard_20 ?_
        refine k_aload hC (pc := 23) dX11_latestHeard_23 0 rfl ?_
        obtain ⟨c_5, h⟩ := h
        refine gf_X2_6 hC (pc := 25) c_5 fl_RX11_388 dX11_latestHeard_25 ?_
        refine k_aload_n hC (pc := 28) dX11_latestHeard_28 1 rfl ?_
        refine gf_X11_5 hC (pc := 29)  fl_RX11_24 dX11_latestHeard_29 ?_
        refine k_iload hC (pc := 32) dX11_latestHeard_32 5 rfl ?_
        obtain ⟨c_6, h⟩ := h
        refine r_iald hC (pc := 34) ra0_7 c_6 dX11_latestHeard_34 ?_
        refine k_iadd hC (pc := 35) dX11_latestHeard_35 ?_
        refine k_iload_n hC (pc := 36) dX11_latestHeard_36 4 rfl ?_
        refine k_icmp_gt hC (pc := 37) 54 dX11_latestHeard_37 (by decide) (fun c_7 => ?_) (fun c_7 => ?_)
        · have h := h.1 c_7
          obtain ⟨x_8, h_x_8⟩ : ∃ z : Int32, z = x5 + (-1) := ⟨_, rfl⟩
          have h := h x_8 h_x_8
          refine k_iincw hC (pc := 54) dX11_latestHeard_54 6 rfl ic_m1 h_x_8.symm [(5, .int x_8), (6, .ref (adr X.G a 2 x5.toNatClampNeg)), (0, .ref (adr X.G a 0 0)), (1, .int x1), (2, .int x2), (3, .int x3), (4, .int x4)] (by decide) rfl ?_
          refine k_goto hC (pc := 57) 4 dX11_latestHeard_57 (by decide) ?_
          refine k_sub [(0, .ref (adr X.G a 0 0)), (1, .int x1), (2, .int x2), (3, .int x3), (4, .int x4), (5, .int x_8)] [2, 3, 4, 5, 6, 0] rfl ?_
          exact ih _ _ _ _ _ _ h
        · have h := h.2 c_7
          refine k_aload hC (pc := 40) dX11_latestHeard_40 0 rfl ?_
          refine k_iload_n hC (pc := 42) dX11_latestHeard_42 2 rfl ?_
          refine k_iload_n hC (pc := 43) dX11_latestHeard_43 3 rfl ?_
          refine k_iload_n hC (pc := 44) dX11_latestHeard_44 4 rfl ?_
          refine k_ci (rn_V hC (pc := 45) (As := [.int x1, .int x2, .int x3]) (rest := []) ca_X2_tellsOf ml_RX11_391 im_X2_tellsOf se_X2_tellsOf (ox_in h.1) (ob2 _ _ _ _ _ _) rfl rfl (ct_X2_tellsOf x5.toNatClampNeg x1 x2 x3 h.2) (by rw [hR]; exact ⟨rfl, rfl, by decide, by decide⟩) rfl (Nat.le_of_ble_eq_true rfl) dX11_latestHeard_45 ⟨by rw [hR]; decide, by rw [hR]; decide⟩) (fun r_10 s_9 h => ?_)
          refine k_if_eq hC (pc := 48) 54 dX11_latestHeard_48 (by decide) (fun c_11 => ?_) (fun c_11 => ?_)
          · have h := h.1 c_11
            obtain ⟨x_12, h_x_12⟩ : ∃ z : Int32, z = x5 + (-1) := ⟨_, rfl⟩
            have h := h x_12 h_x_12
            refine k_iincw hC (pc := 54) dX11_latestHeard_54 6 rfl ic_m1 h_x_12.symm [(5, .int x_12), (6, .ref (adr X.G a 2 x5.toNatClampNeg)), (0, .ref (adr X.G a 0 0)), (1, .int x1), (2, .int x2), (3, .int x3), (4, .int x4)] (by decide) rfl ?_
            refine k_goto hC (pc := 57) 4 dX11_latestHeard_57 (by decide) ?_
            refine k_sub [(0, .ref (adr X.G a 0 0)), (1, .int x1), (2, .int x2), (3, .int x3), (4, .int x4), (5, .int x_12)] [2, 3, 4, 5, 6, 0] rfl ?_
            exact ih _ _ _ _ _ _ h
          · have h := h.2 c_11
            refine k_iload hC (pc := 51) dX11_latestHeard_51 6 rfl ?_
            exact k_iret hC (pc := 53) hQ hr dX11_latestHeard_53 h
set_option maxHeartbeats 4000000 in
theorem b_X11_latestHeard {X : Kx} {a : Ax} {N : Nat} {post : Int32 → Sx → Prop} (hC : Cx X cX11_latestHeard 7 RX11) (hR : X.R = { frames := 2, cells := 0, slots := 0, locals := 45 }) (hQ : X.Q = MQ X.below (Qi X.G a post) X.av X.s 0 0 (bs_ X.G)) (hr : X.meth.sig.returnType = (some .int)) (hn : X.meth.name = "latestHeard") (s : Sx) (x1 : Int32) (x2 : Int32) (x3 : Int32) (x4 : Int32) (h : w_X11_latestHeard N x1 x2 x3 x4 s post) : wk X a s 7 0 [(0, .ref (adr X.G a 0 0)), (1, .int x1), (2, .int x2), (3, .int x3), (4, .int x4)] [] 0 0 := by
  unfold w_X11_latestHeard at h
  refine k_bipush hC (pc := 0) (v := 11) dX11_latestHeard_0 bp_11 ?_
  refine k_istore hC (pc := 2) dX11_latestHeard_2 [(5, .int 11), (0, .ref (adr X.G a 0 0)), (1, .int x1), (2, .int x2), (3, .int x3), (4, .int x4)] (by decide) rfl ?_
  refine k_sub [(0, .ref (adr X.G a 0 0)), (1, .int x1), (2, .int x2), (3, .int x3), (4, .int x4), (5, .int 11)] [1, 2, 3, 4, 5, 0] rfl ?_
  exact b_X11_latestHeard_4 hC hR hQ hr N _ _ _ _ _ _ h
theorem ct_X11_latestHeard {l : Launch} {G : Gx} {a : Ax} {s : Sx} {N : Nat} {post : Int32 → Sx → Prop} (x1 : Int32) (x2 : Int32) (x3 : Int32) (x4 : Int32) (h : w_X11_latestHeard N x1 x2 x3 x4 s post) : Met l yX11_latestHeard (Cond.code yX11_latestHeard cX11_latestHeard 7 (some .int) :: gw) { frames := 2, cells := 0, slots := 0, locals := 45 } (va_Pc [.ref (adr G a 0 0), .int x1, .int x2, .int x3, .int x4] (fun U => FU G a s U)) (Qi G a post) 0 0 (bs_ G) := met_of (plainFor_of_name (by decide)) (Nat.le_of_ble_eq_true rfl) rfl (fun X hC hl hR hQ hr hG hn => by subst hG; exact b_X11_latestHeard hC hR hQ hr hn s x1 x2 x3 x4 h)
theorem ca_X11_latestHeard : Ca yX11_latestHeard cX11_latestHeard 7 (some .int) 4 := ⟨cd_X11_latestHeard, ii_RX11, by decide, by decide, by decide +kernel⟩
def w_X11_why (N : Nat) (x1 : Int32) (x2 : Int32) (x3 : Int32) (x4 : Int32) (s : Sx) (post : Int32 → Sx → Prop) : Prop := w_X0_has N x1 s (fun r_2 s_1 => (r_2 = 0 → post ((-1)) s_1) ∧ (¬ (r_2 = 0) → w_X11_isOffice N x4 s_1 (fun r_5 s_4 => (¬ r_5 = 0 → w_X11_isWithin N x2 0 23 s_4 (fun r_8 s_7 => (r_8 = 0 → post ((-2)) s_7) ∧ (¬ (r_8 = 0) → w_X11_isDay N x3 s_7 (fun r_11 s_10 => (¬ r_11 = 0 → w_X11_latestHeard N x1 x2 x3 x4 s_10 (fun r_14 s_13 => post r_14 s_13)) ∧ (¬ (¬ r_11 = 0) → post ((-2)) s_10))))) ∧ (¬ (¬ r_5 = 0) → post ((-1)) s_4))))
set_option maxHeartbeats 4000000 in
theorem b_X11_why {X : Kx} {a : Ax} {N : Nat} {post : Int32 → Sx → Prop} (hC : Cx X cX11_why 5 RX11) (hR : X.R = { frames := 3, cells := 0, slots := 0, locals := 71 }) (hQ : X.Q = MQ X.below (Qi X.G a post) X.av X.s 0 0 (bs_ X.G)) (hr : X.meth.sig.returnType = (some .int)) (hn : X.meth.name = "why") (s : Sx) (x1 : Int32) (x2 : Int32) (x3 : Int32) (x4 : Int32) (h : w_X11_why N x1 x2 x3 x4 s post) : wk X a s 5 0 [(0, .ref (adr X.G a 0 0)), (1, .int x1), (2, .int x2), (3, .int x3), (4, .int x4)] [] 0 0 := by
  unfold w_X11_why at h
  refine k_aload_n hC (pc := 0) dX11_why_0 0 rfl ?_
  refine gf_X11_0 hC (pc := 1)  fl_RX11_12 dX11_why_1 ?_
  refine k_iload_n hC (pc := 4) dX11_why_4 1 rfl ?_
  refine k_ci (rn_V hC (pc := 5) (As := [.int x1]) (rest := []) ca_X0_has ml_RX11_96 im_X0_has se_X0_has (fx_in f0_1) (ob0_1 _ _ _ _ _) rfl rfl (ct_X0_has x1 h) (by rw [hR]; exact ⟨rfl, rfl, by decide, by decide⟩) rfl (Nat.le_of_ble_eq_true rfl) dX11_why_5 ⟨by rw [hR]; decide, by rw [hR]; decide⟩) (fun r_2 s_1 h => ?_)
  refine k_if_eq hC (pc := 8) 19 dX11_why_8 (by decide) (fun c_3 => ?_) (fun c_3 => ?_)
  · have h := h.1 c_3
    refine k_iconst hC (pc := 19) (v := (-1)) dX11_why_19 ic_m1 ?_
    exact k_iret hC (pc := 20) hQ hr dX11_why_20 h
  · have h := h.2 c_3
    refine k_iload hC (pc := 11) dX11_why_11 4 rfl ?_
    refine k_ci (rn_S hC (pc := 13) (As := [.int x4]) (rest := []) ca_X11_isOffice ml_RX11_184 sm_X11_isOffice (ct_X11_isOffice x4 h) (by rw [hR]; exact ⟨rfl, rfl, by decide, by decide⟩) rfl (Nat.le_of_ble_eq_true rfl) dX11_why_13 ⟨by rw [hR]; decide, by rw [hR]; decide⟩) (fun r_5 s_4 h => ?_)
    refine k_if_ne hC (pc := 16) 21 dX11_why_16 (by decide) (fun c_6 => ?_) (fun c_6 => ?_)
    · have h := h.1 c_6
      refine k_iload_n hC (pc := 21) dX11_why_21 2 rfl ?_
      refine k_iconst hC (pc := 22) (v := 0) dX11_why_22 ic_0 ?_
      refine k_bipush hC (pc := 23) (v := 23) dX11_why_23 bp_23 ?_
      refine k_ci (rn_S hC (pc := 25) (As := [.int x2, .int 0, .int 23]) (rest := []) ca_X11_isWithin ml_RX11_80 sm_X11_isWithin (ct_X11_isWithin x2 0 23 h) (by rw [hR]; exact ⟨rfl, rfl, by decide, by decide⟩) rfl (Nat.le_of_ble_eq_true rfl) dX11_why_25 ⟨by rw [hR]; decide, by rw [hR]; decide⟩) (fun r_8 s_7 h => ?_)
      refine k_if_eq hC (pc := 28) 38 dX11_why_28 (by decide) (fun c_9 => ?_) (fun c_9 => ?_)
      · have h := h.1 c_9
        refine k_bipush hC (pc := 38) (v := (-2)) dX11_why_38 bp_m2 ?_
        exact k_iret hC (pc := 40) hQ hr dX11_why_40 h
      · have h := h.2 c_9
        refine k_iload_n hC (pc := 31) dX11_why_31 3 rfl ?_
        refine k_ci (rn_S hC (pc := 32) (As := [.int x3]) (rest := []) ca_X11_isDay ml_RX11_114 sm_X11_isDay (ct_X11_isDay x3 h) (by rw [hR]; exact ⟨rfl, rfl, by decide, by decide⟩) rfl (Nat.le_of_ble_eq_true rfl) dX11_why_32 ⟨by rw [hR]; decide, by rw [hR]; decide⟩) (fun r_11 s_10 h => ?_)
        refine k_if_ne hC (pc := 35) 41 dX11_why_35 (by decide) (fun c_12 => ?_) (fun c_12 => ?_)
        · have h := h.1 c_12
          refine k_aload_n hC (pc := 41) dX11_why_41 0 rfl ?_
          refine k_iload_n hC (pc := 42) dX11_why_42 1 rfl ?_
          refine k_iload_n hC (pc := 43) dX11_why_43 2 rfl ?_
          refine k_iload_n hC (pc := 44) dX11_why_44 3 rfl ?_
          refine k_iload hC (pc := 45) dX11_why_45 4 rfl ?_
          refine k_ci (rn_V hC (pc := 47) (As := [.int x1, .int x2, .int x3, .int x4]) (rest := []) ca_X11_latestHeard ml_RX11_194 im_X11_latestHeard se_X11_latestHeard (fx_in f0_0) (ob0_0 _ _ _ _ _) rfl rfl (ct_X11_latestHeard x1 x2 x3 x4 h) (by rw [hR]; exact ⟨rfl, rfl, by decide, by decide⟩) rfl (Nat.le_of_ble_eq_true rfl) dX11_why_47 ⟨by rw [hR]; decide, by rw [hR]; decide⟩) (fun r_14 s_13 h => ?_)
          exact k_iret hC (pc := 50) hQ hr dX11_why_50 h
        · have h := h.2 c_12
          refine k_bipush hC (pc := 38) (v := (-2)) dX11_why_38 bp_m2 ?_
          exact k_iret hC (pc := 40) hQ hr dX11_why_40 h
    · have h := h.2 c_6
      refine k_iconst hC (pc := 19) (v := (-1)) dX11_why_19 ic_m1 ?_
      exact k_iret hC (pc := 20) hQ hr dX11_why_20 h
theorem ct_X11_why {l : Launch} {G : Gx} {a : Ax} {s : Sx} {N : Nat} {post : Int32 → Sx → Prop} (x1 : Int32) (x2 : Int32) (x3 : Int32) (x4 : Int32) (h : w_X11_why N x1 x2 x3 x4 s post) : Met l yX11_why (Cond.code yX11_why cX11_why 5 (some .int) :: gw) { frames := 3, cells := 0, slots := 0, locals := 71 } (va_Pc [.ref (adr G a 0 0), .int x1, .int x2, .int x3, .int x4] (fun U => FU G a s U)) (Qi G a post) 0 0 (bs_ G) := met_of (plainFor_of_name (by decide)) (Nat.le_of_ble_eq_true rfl) rfl (fun X hC hl hR hQ hr hG hn => by subst hG; exact b_X11_why hC hR hQ hr hn s x1 x2 x3 x4 h)
theorem ca_X11_why : Ca yX11_why cX11_why 5 (some .int) 4 := ⟨cd_X11_why, ii_RX11, by decide, by decide, by decide +kernel⟩
def w_X11_word (N : Nat) (x1 : Int32) (x2 : Int32) (x3 : Int32) (x4 : Int32) (s : Sx) (post : Int32 → Sx → Prop) : Prop := w_X11_why N x1 x2 x3 x4 s (fun r_2 s_1 => w_X11_orderAt N r_2 s_1 (fun o_4 s_3 => (o_4 = none → post r_2 s_3) ∧ (∀ j_5, o_4 = some j_5 → j_5 < s_3.2.2 2 ∧ post (s_3.1 2 j_5 0) s_3)))
set_option maxHeartbeats 4000000 in
theorem b_X11_word {X : Kx} {a : Ax} {N : Nat} {post : Int32 → Sx → Prop} (hC : Cx X cX11_word 7 RX11) (hR : X.R = { frames := 4, cells := 0, slots := 0, locals := 95 }) (hQ : X.Q = MQ X.below (Qi X.G a post) X.av X.s 0 0 (bs_ X.G)) (hr : X.meth.sig.returnType = (some .int)) (hn : X.meth.name = "word") (s : Sx) (x1 : Int32) (x2 : Int32) (x3 : Int32) (x4 : Int32) (h : w_X11_word N x1 x2 x3 x4 s post) : wk X a s 7 0 [(0, .ref (adr X.G a 0 0)), (1, .int x1), (2, .int x2), (3, .int x3), (4, .int x4)] [] 0 0 := by
  unfold w_X11_word at h
  refine k_aload_n hC (pc := 0) dX11_word_0 0 rfl ?_
  refine k_iload_n hC (pc := 1) dX11_word_1 1 rfl ?_
  refine k_iload_n hC (pc := 2) dX11_word_2 2 rfl ?_
  refine k_iload_n hC (pc := 3) dX11_word_3 3 rfl ?_
  refine k_iload hC (pc := 4) dX11_word_4 4 rfl ?_
  refine k_ci (rn_V hC (pc := 6) (As := [.int x1, .int x2, .int x3, .int x4]) (rest := []) ca_X11_why ml_RX11_187 im_X11_why se_X11_why (fx_in f0_0) (ob0_0 _ _ _ _ _) rfl rfl (ct_X11_why x1 x2 x3 x4 h) (by rw [hR]; exact ⟨rfl, rfl, by decide, by decide⟩) rfl (Nat.le_of_ble_eq_true rfl) dX11_word_6 ⟨by rw [hR]; decide, by rw [hR]; decide⟩) (fun r_2 s_1 h => ?_)
  refine k_istore hC (pc := 9) dX11_word_9 [(5, .int r_2), (0, .ref (adr X.G a 0 0)), (1, .int x1), (2, .int x2), (3, .int x3), (4, .int x4)] (by decide) rfl ?_
  refine k_aload_n hC (pc := 11) dX11_word_11 1 rfl ?_
  refine k_iload hC (pc := 12) dX11_word_12 0 rfl ?_
  refine k_cq (k := 2) (off := 0) (rn_V hC (pc := 14) (As := [.int r_2]) (rest := []) ca_X11_orderAt ml_RX11_177 im_X11_orderAt se_X11_orderAt (fx_in f0_0) (ob0_0 _ _ _ _ _) rfl rfl (ct_X11_orderAt r_2 h) (by rw [hR]; exact ⟨rfl, rfl, by decide, by decide⟩) rfl (Nat.le_of_ble_eq_true rfl) dX11_word_14 ⟨by rw [hR]; decide, by rw [hR]; decide⟩) (fun s_3 h => ?_) (fun j_5 s_3 h => ?_)
  · have h := h.1 rfl
    refine k_astoreN hC (pc := 17) dX11_word_17 [(6, .null), (5, .int r_2), (0, .ref (adr X.G a 0 0)), (1, .int x1), (2, .int x2), (3, .int x3), (4, .int x4)] (by decide) rfl ?_
    refine k_aloadN hC (pc := 19) dX11_word_19 0 rfl ?_
    refine k_ifnonnullN hC (pc := 21) dX11_word_21 ?_
    refine k_iload hC (pc := 24) dX11_word_24 1 rfl ?_
    refine k_goto hC (pc := 26) 34 dX11_word_26 (by decide) ?_
    exact k_iret hC (pc := 34) hQ hr dX11_word_34 h
  · have h := h.2 j_5 rfl
    refine k_eqz ?_
    refine k_astore hC (pc := 17) dX11_word_17 [(6, .ref (adr X.G a 2 j_5)), (5, .int r_2), (0, .ref (adr X.G a 0 0)), (1, .int x1), (2, .int x2), (3, .int x3), (4, .int x4)] (by decide) rfl ?_
    refine k_aload hC (pc := 19) dX11_word_19 0 rfl ?_
    refine k_ifnonnull hC (pc := 21) 29 dX11_word_21 (by decide) ?_
    refine k_aload hC (pc := 29) dX11_word_29 0 rfl ?_
    obtain ⟨c_6, h⟩ := h
    refine gf_X2_0 hC (pc := 31) c_6 fl_RX11_191 dX11_word_31 ?_
    exact k_iret hC (pc := 34) hQ hr dX11_word_34 h
theorem ct_X11_word {l : Launch} {G : Gx} {a : Ax} {s : Sx} {N : Nat} {post : Int32 → Sx → Prop} (x1 : Int32) (x2 : Int32) (x3 : Int32) (x4 : Int32) (h : w_X11_word N x1 x2 x3 x4 s post) : Met l yX11_word (Cond.code yX11_word cX11_word 7 (some .int) :: gw) { frames := 4, cells := 0, slots := 0, locals := 95 } (va_Pc [.ref (adr G a 0 0), .int x1, .int x2, .int x3, .int x4] (fun U => FU G a s U)) (Qi G a post) 0 0 (bs_ G) := met_of (plainFor_of_name (by decide)) (Nat.le_of_ble_eq_true rfl) rfl (fun X hC hl hR hQ hr hG hn => by subst hG; exact b_X11_word hC hR hQ hr hn s x1 x2 x3 x4 h)
theorem ca_X11_word : Ca yX11_word cX11_word 7 (some .int) 4 := ⟨cd_X11_word, ii_RX11, by decide, by decide, by decide +kernel⟩
def w_X11_officesThatClaim_6 (N : Nat) (post : Int32 → Sx → Prop) : Nat → Sx → Int32 → Int32 → Int32 → Int32 → Int32 → Prop
  | 0, _, _, _, _, _, _ => False
  | n + 1, s, x1, x2, x3, x4, x5 => (5 ≤ x5 → post x4 s) ∧ (¬ (5 ≤ x5) → w_X11_latestHeard N x1 x2 x3 x5 s (fun r_3 s_2 => w_X11_orderAt N r_3 s_2 (fun o_5 s_4 => (o_5 = none → ∀ x_7 : Int32, x_7 = x5 + 1 → w_X11_officesThatClaim_6 N post n s_4 x1 x2 x3 x4 x_7) ∧ (∀ j_6, o_5 = some j_6 → j_6 < s_4.2.2 2 ∧ (¬ (s_4.1 2 j_6 0) = x5 → ∀ x_10 : Int32, x_10 = x5 + 1 → w_X11_officesThatClaim_6 N post n s_4 x1 x2 x3 x4 x_10) ∧ (¬ (¬ (s_4.1 2 j_6 0) = x5) → ∀ x_11 : Int32, x_11 = x4 + 1 → ∀ x_12 : Int32, x_12 = x5 + 1 → w_X11_officesThatClaim_6 N post n s_4 x1 x2 x3 x_11 x_12)))))
def w_X11_officesThatClaim (N : Nat) (x1 : Int32) (x2 : Int32) (x3 : Int32) (s : Sx) (post : Int32 → Sx → Prop) : Prop := w_X11_officesThatClaim_6 N post N s x1 x2 x3 0 0
set_option maxHeartbeats 4000000 in
theorem b_X11_officesThatClaim_6 {X : Kx} {a : Ax} {N : Nat} {post : Int32 → Sx → Prop}  (hC : Cx X cX11_officesThatClaim 7 RX11) (hR : X.R = { frames := 3, cells := 0, slots := 0, locals := 71 }) (hQ : X.Q = MQ X.below (Qi X.G a post) X.av X.s 0 0 (bs_ X.G)) (hr : X.meth.sig.returnType = (some .int))   : ∀ (n : Nat) (s : Sx) (x1 : Int32) (x2 : Int32) (x3 : Int32) (x4 : Int32) (x5 : Int32), w_X11_officesThatClaim_6 N post  n s x1 x2 x3 x4 x5 → wk X a s 7 6 [(0, .ref (adr X.G a 0 0)), (1, .int x1), (2, .int x2), (3, .int x3), (4, .int x4), (5, .int x5)] [] 0 0 := by
  intro n
  induction n with
  | zero => intro s x1 x2 x3 x4 x5 h; exact h.elim
  | succ n ih =>
    intro s x1 x2 x3 x4 x5 h
    unfold w_X11_officesThatClaim_6 at h
    refine k_iload hC (pc := 6) dX11_officesThatClaim_6 5 rfl ?_
    refine k_iconst hC (pc := 8) (v := 5) dX11_officesThatClaim_8 ic_5 ?_
    refine k_icmp_ge hC (pc := 9) 51 dX11_officesThatClaim_9 (by decide) (fun c_1 => ?_) (fun c_1 => ?_)
    · have h := h.1 c_1
      refine k_iload hC (pc := 51) dX11_officesThatClaim_51 4 rfl ?_
      exact k_iret hC (pc := 53) hQ hr dX11_officesThatClaim_53 h
    · have h := h.2 c_1
      refine k_aload_n hC (pc := 12) dX11_officesThatClaim_12 0 rfl ?_
      refine k_aload_n hC (pc := 13) dX11_officesThatClaim_13 0 rfl ?_
      refine k_iload_n hC (pc := 14) dX11_officesThatClaim_14 1 rfl ?_
      refine k_iload_n hC (pc := 15) dX11_officesThatClaim_15 2 rfl ?_
      refine k_iload_n hC (pc := 16) dX11_officesThatClaim_16 3 rfl ?_
      refine k_iload hC (pc := 17) dX11_officesThatClaim_17 5 rfl ?_
      refine k_ci (rn_V hC (pc := 19) (As := [.int x1, .int x2, .int x3, .int x5]) (rest := [.ref (adr X.G a 0 0)]) ca_X11_latestHeard ml_RX11_194 im_X11_latestHeard se_X11_latestHeard (fx_in f0_0) (ob0_0 _ _ _ _ _) rfl rfl (ct_X11_latestHeard x1 x2 x3 x5 h) (by rw [hR]; exact ⟨rfl, rfl, by decide, by decide⟩) rfl (Nat.le_of_ble_eq_true rfl) dX11_officesThatClaim_19 ⟨by rw [hR]; decide, by rw [hR]; decide⟩) (fun r_3 s_2 h => ?_)
      refine k_cq (k := 2) (off := 0) (rn_V hC (pc := 22) (As := [.int r_3]) (rest := []) ca_X11_orderAt ml_RX11_177 im_X11_orderAt se_X11_orderAt (fx_in f0_0) (ob0_0 _ _ _ _ _) rfl rfl (ct_X11_orderAt r_3 h) (by rw [hR]; exact ⟨rfl, rfl, by decide, by decide⟩) rfl (Nat.le_of_ble_eq_true rfl) dX11_officesThatClaim_22 ⟨by rw [hR]; decide, by rw [hR]; decide⟩) (fun s_4 h => ?_) (fun j_6 s_4 h => ?_)
      · have h := h.1 rfl
        refine k_astoreN hC (pc := 25) dX11_officesThatClaim_25 [(6, .null), (0, .ref (adr X.G a 0 0)), (1, .int x1), (2, .int x2), (3, .int x3), (4, .int x4), (5, .int x5)] (by decide) rfl ?_
        refine k_aloadN hC (pc := 27) dX11_officesThatClaim_27 0 rfl ?_
        refine k_ifnullN hC (pc := 29) 45 dX11_officesThatClaim_29 (by decide) ?_
        obtain ⟨x_7, h_x_7⟩ : ∃ z : Int32, z = x5 + 1 := ⟨_, rfl⟩
        have h := h x_7 h_x_7
        refine k_iincw hC (pc := 45) dX11_officesThatClaim_45 6 rfl ic_1 h_x_7.symm [(5, .int x_7), (6, .null), (0, .ref (adr X.G a 0 0)), (1, .int x1), (2, .int x2), (3, .int x3), (4, .int x4)] (by decide) rfl ?_
        refine k_goto hC (pc := 48) 6 dX11_officesThatClaim_48 (by decide) ?_
        refine k_sub [(0, .ref (adr X.G a 0 0)), (1, .int x1), (2, .int x2), (3, .int x3), (4, .int x4), (5, .int x_7)] [2, 3, 4, 5, 6, 0] rfl ?_
        exact ih _ _ _ _ _ _ h
      · have h := h.2 j_6 rfl
        refine k_eqz ?_
        refine k_astore hC (pc := 25) dX11_officesThatClaim_25 [(6, .ref (adr X.G a 2 j_6)), (0, .ref (adr X.G a 0 0)), (1, .int x1), (2, .int x2), (3, .int x3), (4, .int x4), (5, .int x5)] (by decide) rfl ?_
        refine k_aload hC (pc := 27) dX11_officesThatClaim_27 0 rfl ?_
        refine k_ifnull hC (pc := 29) dX11_officesThatClaim_29 ?_
        refine k_aload hC (pc := 32) dX11_officesThatClaim_32 0 rfl ?_
        obtain ⟨c_8, h⟩ := h
        refine gf_X2_0 hC (pc := 34) c_8 fl_RX11_191 dX11_officesThatClaim_34 ?_
        refine k_iload hC (pc := 37) dX11_officesThatClaim_37 6 rfl ?_
        refine k_icmp_ne hC (pc := 39) 45 dX11_officesThatClaim_39 (by decide) (fun c_9 => ?_) (fun c_9 => ?_)
        · have h := h.1 c_9
          obtain ⟨x_10, h_x_10⟩ : ∃ z : Int32, z = x5 + 1 := ⟨_, rfl⟩
          have h := h x_10 h_x_10
          refine k_iincw hC (pc := 45) dX11_officesThatClaim_45 6 rfl ic_1 h_x_10.symm [(5, .int x_10), (6, .ref (adr X.G a 2 j_6)), (0, .ref (adr X.G a 0 0)), (1, .int x1), (2, .int x2), (3, .int x3), (4, .int x4)] (by decide) rfl ?_
          refine k_goto hC (pc := 48) 6 dX11_officesThatClaim_48 (by decide) ?_
          refine k_sub [(0, .ref (adr X.G a 0 0)), (1, .int x1), (2, .int x2), (3, .int x3), (4, .int x4), (5, .int x_10)] [2, 3, 4, 5, 6, 0] rfl ?_
          exact ih _ _ _ _ _ _ h
        · have h := h.2 c_9
          obtain ⟨x_11, h_x_11⟩ : ∃ z : Int32, z = x4 + 1 := ⟨_, rfl⟩
          have h := h x_11 h_x_11
          refine k_iincw hC (pc := 42) dX11_officesThatClaim_42 5 rfl ic_1 h_x_11.symm [(4, .int x_11), (6, .ref (adr X.G a 2 j_6)), (0, .ref (adr X.G a 0 0)), (1, .int x1), (2, .int x2), (3, .int x3), (5, .int x5)] (by decide) rfl ?_
          obtain ⟨x_12, h_x_12⟩ : ∃ z : Int32, z = x5 + 1 := ⟨_, rfl⟩
          have h := h x_12 h_x_12
          refine k_iincw hC (pc := 45) dX11_officesThatClaim_45 6 rfl ic_1 h_x_12.symm [(5, .int x_12), (4, .int x_11), (6, .ref (adr X.G a 2 j_6)), (0, .ref (adr X.G a 0 0)), (1, .int x1), (2, .int x2), (3, .int x3)] (by decide) rfl ?_
          refine k_goto hC (pc := 48) 6 dX11_officesThatClaim_48 (by decide) ?_
          refine k_sub [(0, .ref (adr X.G a 0 0)), (1, .int x1), (2, .int x2), (3, .int x3), (4, .int x_11), (5, .int x_12)] [3, 4, 5, 6, 1, 0] rfl ?_
          exact ih _ _ _ _ _ _ h
set_option maxHeartbeats 4000000 in
theorem b_X11_officesThatClaim {X : Kx} {a : Ax} {N : Nat} {post : Int32 → Sx → Prop} (hC : Cx X cX11_officesThatClaim 7 RX11) (hR : X.R = { frames := 3, cells := 0, slots := 0, locals := 71 }) (hQ : X.Q = MQ X.below (Qi X.G a post) X.av X.s 0 0 (bs_ X.G)) (hr : X.meth.sig.returnType = (some .int)) (hn : X.meth.name = "officesThatClaim") (s : Sx) (x1 : Int32) (x2 : Int32) (x3 : Int32) (h : w_X11_officesThatClaim N x1 x2 x3 s post) : wk X a s 7 0 [(0, .ref (adr X.G a 0 0)), (1, .int x1), (2, .int x2), (3, .int x3)] [] 0 0 := by
  unfold w_X11_officesThatClaim at h
  refine k_iconst hC (pc := 0) (v := 0) dX11_officesThatClaim_0 ic_0 ?_
  refine k_istore hC (pc := 1) dX11_officesThatClaim_1 [(4, .int 0), (0, .ref (adr X.G a 0 0)), (1, .int x1), (2, .int x2), (3, .int x3)] (by decide) rfl ?_
  refine k_iconst hC (pc := 3) (v := 0) dX11_officesThatClaim_3 ic_0 ?_
  refine k_istore hC (pc := 4) dX11_officesThatClaim_4 [(5, .int 0), (4, .int 0), (0, .ref (adr X.G a 0 0)), (1, .int x1), (2, .int x2), (3, .int x3)] (by decide) rfl ?_
  refine k_sub [(0, .ref (adr X.G a 0 0)), (1, .int x1), (2, .int x2), (3, .int x3), (4, .int 0), (5, .int 0)] [2, 3, 4, 5, 1, 0] rfl ?_
  exact b_X11_officesThatClaim_6 hC hR hQ hr N _ _ _ _ _ _ h
theorem ct_X11_officesThatClaim {l : Launch} {G : Gx} {a : Ax} {s : Sx} {N : Nat} {post : Int32 → Sx → Prop} (x1 : Int32) (x2 : Int32) (x3 : Int32) (h : w_X11_officesThatClaim N x1 x2 x3 s post) : Met l yX11_officesThatClaim (Cond.code yX11_officesThatClaim cX11_officesThatClaim 7 (some .int) :: gw) { frames := 3, cells := 0, slots := 0, locals := 71 } (va_Pc [.ref (adr G a 0 0), .int x1, .int x2, .int x3] (fun U => FU G a s U)) (Qi G a post) 0 0 (bs_ G) := met_of (plainFor_of_name (by decide)) (Nat.le_of_ble_eq_true rfl) rfl (fun X hC hl hR hQ hr hG hn => by subst hG; exact b_X11_officesThatClaim hC hR hQ hr hn s x1 x2 x3 h)
theorem ca_X11_officesThatClaim : Ca yX11_officesThatClaim cX11_officesThatClaim 7 (some .int) 3 := ⟨cd_X11_officesThatClaim, ii_RX11, by decide, by decide, by decide +kernel⟩
def w_X11_quarrel_28 (N : Nat) (post : Int32 → Sx → Prop) : Nat → Sx → Int32 → Int32 → Int32 → Int32 → Prop
  | 0, _, _, _, _, _ => False
  | n + 1, s, x1, x2, x3, x4 => (23 < x4 → post x3 s) ∧ (¬ (23 < x4) → w_X11_officesThatClaim N x1 x4 x2 s (fun r_9 s_8 => (r_9 < 2 → ∀ x_11 : Int32, x_11 = x4 + 1 → w_X11_quarrel_28 N post n s_8 x1 x2 x3 x_11) ∧ (¬ (r_9 < 2) → ∀ x_12 : Int32, x_12 = x3 ||| (1 <<< (x4 &&& 31)) → ∀ x_13 : Int32, x_13 = x4 + 1 → w_X11_quarrel_28 N post n s_8 x1 x2 x_12 x_13)))
def w_X11_quarrel (N : Nat) (x1 : Int32) (x2 : Int32) (s : Sx) (post : Int32 → Sx → Prop) : Prop := w_X0_has N x1 s (fun r_2 s_1 => (¬ r_2 = 0 → w_X11_isDay N x2 s_1 (fun r_5 s_4 => (¬ r_5 = 0 → w_X11_quarrel_28 N post N s_4 x1 x2 0 0) ∧ (¬ (¬ r_5 = 0) → post ((-2)) s_4))) ∧ (¬ (¬ r_2 = 0) → post ((-1)) s_1))
set_option maxHeartbeats 4000000 in
theorem b_X11_quarrel_28 {X : Kx} {a : Ax} {N : Nat} {post : Int32 → Sx → Prop}  (hC : Cx X cX11_quarrel 5 RX11) (hR : X.R = { frames := 4, cells := 0, slots := 0, locals := 97 }) (hQ : X.Q = MQ X.below (Qi X.G a post) X.av X.s 0 0 (bs_ X.G)) (hr : X.meth.sig.returnType = (some .int))   : ∀ (n : Nat) (s : Sx) (x1 : Int32) (x2 : Int32) (x3 : Int32) (x4 : Int32), w_X11_quarrel_28 N post  n s x1 x2 x3 x4 → wk X a s 5 28 [(0, .ref (adr X.G a 0 0)), (1, .int x1), (2, .int x2), (3, .int x3), (4, .int x4)] [] 0 0 := by
  intro n
  induction n with
  | zero => intro s x1 x2 x3 x4 h; exact h.elim
  | succ n ih =>
    intro s x1 x2 x3 x4 h
    unfold w_X11_quarrel_28 at h
    refine k_iload hC (pc := 28) dX11_quarrel_28 4 rfl ?_
    refine k_bipush hC (pc := 30) (v := 23) dX11_quarrel_30 bp_23 ?_
    refine k_icmp_gt hC (pc := 32) 60 dX11_quarrel_32 (by decide) (fun c_7 => ?_) (fun c_7 => ?_)
    · have h := h.1 c_7
      refine k_iload_n hC (pc := 60) dX11_quarrel_60 3 rfl ?_
      exact k_iret hC (pc := 61) hQ hr dX11_quarrel_61 h
    · have h := h.2 c_7
      refine k_aload_n hC (pc := 35) dX11_quarrel_35 0 rfl ?_
      refine k_iload_n hC (pc := 36) dX11_quarrel_36 1 rfl ?_
      refine k_iload hC (pc := 37) dX11_quarrel_37 4 rfl ?_
      refine k_iload_n hC (pc := 39) dX11_quarrel_39 2 rfl ?_
      refine k_ci (rn_V hC (pc := 40) (As := [.int x1, .int x4, .int x2]) (rest := []) ca_X11_officesThatClaim ml_RX11_197 im_X11_officesThatClaim se_X11_officesThatClaim (fx_in f0_0) (ob0_0 _ _ _ _ _) rfl rfl (ct_X11_officesThatClaim x1 x4 x2 h) (by rw [hR]; exact ⟨rfl, rfl, by decide, by decide⟩) rfl (Nat.le_of_ble_eq_true rfl) dX11_quarrel_40 ⟨by rw [hR]; decide, by rw [hR]; decide⟩) (fun r_9 s_8 h => ?_)
      refine k_iconst hC (pc := 43) (v := 2) dX11_quarrel_43 ic_2 ?_
      refine k_icmp_lt hC (pc := 44) 54 dX11_quarrel_44 (by decide) (fun c_10 => ?_) (fun c_10 => ?_)
      · have h := h.1 c_10
        obtain ⟨x_11, h_x_11⟩ : ∃ z : Int32, z = x4 + 1 := ⟨_, rfl⟩
        have h := h x_11 h_x_11
        refine k_iincw hC (pc := 54) dX11_quarrel_54 4 rfl ic_1 h_x_11.symm [(4, .int x_11), (0, .ref (adr X.G a 0 0)), (1, .int x1), (2, .int x2), (3, .int x3)] (by decide) rfl ?_
        refine k_goto hC (pc := 57) 28 dX11_quarrel_57 (by decide) ?_
        refine k_sub [(0, .ref (adr X.G a 0 0)), (1, .int x1), (2, .int x2), (3, .int x3), (4, .int x_11)] [1, 2, 3, 4, 0] rfl ?_
        exact ih _ _ _ _ _ h
      · have h := h.2 c_10
        refine k_iload_n hC (pc := 47) dX11_quarrel_47 3 rfl ?_
        refine k_iconst hC (pc := 48) (v := 1) dX11_quarrel_48 ic_1 ?_
        refine k_iload hC (pc := 49) dX11_quarrel_49 4 rfl ?_
        refine k_ishl hC (pc := 51) dX11_quarrel_51 ?_
        refine k_ior hC (pc := 52) dX11_quarrel_52 ?_
        refine k_topi (fun x_12 h_x_12 => ?_)
        have h := h x_12 h_x_12
        refine k_istore_n hC (pc := 53) dX11_quarrel_53 [(3, .int x_12), (0, .ref (adr X.G a 0 0)), (1, .int x1), (2, .int x2), (4, .int x4)] (by decide) rfl ?_
        obtain ⟨x_13, h_x_13⟩ : ∃ z : Int32, z = x4 + 1 := ⟨_, rfl⟩
        have h := h x_13 h_x_13
        refine k_iincw hC (pc := 54) dX11_quarrel_54 4 rfl ic_1 h_x_13.symm [(4, .int x_13), (3, .int x_12), (0, .ref (adr X.G a 0 0)), (1, .int x1), (2, .int x2)] (by decide) rfl ?_
        refine k_goto hC (pc := 57) 28 dX11_quarrel_57 (by decide) ?_
        refine k_sub [(0, .ref (adr X.G a 0 0)), (1, .int x1), (2, .int x2), (3, .int x_12), (4, .int x_13)] [2, 3, 4, 1, 0] rfl ?_
        exact ih _ _ _ _ _ h
set_option maxHeartbeats 4000000 in
theorem b_X11_quarrel {X : Kx} {a : Ax} {N : Nat} {post : Int32 → Sx → Prop} (hC : Cx X cX11_quarrel 5 RX11) (hR : X.R = { frames := 4, cells := 0, slots := 0, locals := 97 }) (hQ : X.Q = MQ X.below (Qi X.G a post) X.av X.s 0 0 (bs_ X.G)) (hr : X.meth.sig.returnType = (some .int)) (hn : X.meth.name = "quarrel") (s : Sx) (x1 : Int32) (x2 : Int32) (h : w_X11_quarrel N x1 x2 s post) : wk X a s 5 0 [(0, .ref (adr X.G a 0 0)), (1, .int x1), (2, .int x2)] [] 0 0 := by
  unfold w_X11_quarrel at h
  refine k_aload_n hC (pc := 0) dX11_quarrel_0 0 rfl ?_
  refine gf_X11_0 hC (pc := 1)  fl_RX11_12 dX11_quarrel_1 ?_
  refine k_iload_n hC (pc := 4) dX11_quarrel_4 1 rfl ?_
  refine k_ci (rn_V hC (pc := 5) (As := [.int x1]) (rest := []) ca_X0_has ml_RX11_96 im_X0_has se_X0_has (fx_in f0_1) (ob0_1 _ _ _ _ _) rfl rfl (ct_X0_has x1 h) (by rw [hR]; exact ⟨rfl, rfl, by decide, by decide⟩) rfl (Nat.le_of_ble_eq_true rfl) dX11_quarrel_5 ⟨by rw [hR]; decide, by rw [hR]; decide⟩) (fun r_2 s_1 h => ?_)
  refine k_if_ne hC (pc := 8) 13 dX11_quarrel_8 (by decide) (fun c_3 => ?_) (fun c_3 => ?_)
  · have h := h.1 c_3
    refine k_iload_n hC (pc := 13) dX11_quarrel_13 2 rfl ?_
    refine k_ci (rn_S hC (pc := 14) (As := [.int x2]) (rest := []) ca_X11_isDay ml_RX11_114 sm_X11_isDay (ct_X11_isDay x2 h) (by rw [hR]; exact ⟨rfl, rfl, by decide, by decide⟩) rfl (Nat.le_of_ble_eq_true rfl) dX11_quarrel_14 ⟨by rw [hR]; decide, by rw [hR]; decide⟩) (fun r_5 s_4 h => ?_)
    refine k_if_ne hC (pc := 17) 23 dX11_quarrel_17 (by decide) (fun c_6 => ?_) (fun c_6 => ?_)
    · have h := h.1 c_6
      refine k_iconst hC (pc := 23) (v := 0) dX11_quarrel_23 ic_0 ?_
      refine k_istore_n hC (pc := 24) dX11_quarrel_24 [(3, .int 0), (0, .ref (adr X.G a 0 0)), (1, .int x1), (2, .int x2)] (by decide) rfl ?_
      refine k_iconst hC (pc := 25) (v := 0) dX11_quarrel_25 ic_0 ?_
      refine k_istore hC (pc := 26) dX11_quarrel_26 [(4, .int 0), (3, .int 0), (0, .ref (adr X.G a 0 0)), (1, .int x1), (2, .int x2)] (by decide) rfl ?_
      refine k_sub [(0, .ref (adr X.G a 0 0)), (1, .int x1), (2, .int x2), (3, .int 0), (4, .int 0)] [2, 3, 4, 1, 0] rfl ?_
      exact b_X11_quarrel_28 hC hR hQ hr N _ _ _ _ _ h
    · have h := h.2 c_6
      refine k_bipush hC (pc := 20) (v := (-2)) dX11_quarrel_20 bp_m2 ?_
      exact k_iret hC (pc := 22) hQ hr dX11_quarrel_22 h
  · have h := h.2 c_3
    refine k_iconst hC (pc := 11) (v := (-1)) dX11_quarrel_11 ic_m1 ?_
    exact k_iret hC (pc := 12) hQ hr dX11_quarrel_12 h
theorem ct_X11_quarrel {l : Launch} {G : Gx} {a : Ax} {s : Sx} {N : Nat} {post : Int32 → Sx → Prop} (x1 : Int32) (x2 : Int32) (h : w_X11_quarrel N x1 x2 s post) : Met l yX11_quarrel (Cond.code yX11_quarrel cX11_quarrel 5 (some .int) :: gw) { frames := 4, cells := 0, slots := 0, locals := 97 } (va_Pc [.ref (adr G a 0 0), .int x1, .int x2] (fun U => FU G a s U)) (Qi G a post) 0 0 (bs_ G) := met_of (plainFor_of_name (by decide)) (Nat.le_of_ble_eq_true rfl) rfl (fun X hC hl hR hQ hr hG hn => by subst hG; exact b_X11_quarrel hC hR hQ hr hn s x1 x2 h)
theorem ca_X11_quarrel : Ca yX11_quarrel cX11_quarrel 5 (some .int) 2 := ⟨cd_X11_quarrel, ii_RX11, by decide, by decide, by decide +kernel⟩
def w_X11_rate (N : Nat) (x1 : Int32) (x2 : Int32) (s : Sx) (post : Int32 → Sx → Prop) : Prop := w_X11_isKind N x1 s (fun r_2 s_1 => (r_2 = 0 → post ((-2)) s_1) ∧ (¬ (r_2 = 0) → w_X11_isWithin N x2 0 999 s_1 (fun r_5 s_4 => (¬ r_5 = 0 → vp_in x1 3 ∧ ∀ x_8 : Int32, x_8 = s_4.1 0 10 x1.toNatClampNeg → vp_in x1 3 ∧ ∀ s_10, s_10 = setI s_4 0 10 x1.toNatClampNeg x2 → post x_8 s_10) ∧ (¬ (¬ r_5 = 0) → post ((-2)) s_4))))
set_option maxHeartbeats 4000000 in
theorem b_X11_rate {X : Kx} {a : Ax} {N : Nat} {post : Int32 → Sx → Prop} (hC : Cx X cX11_rate 4 RX11) (hR : X.R = { frames := 2, cells := 0, slots := 0, locals := 42 }) (hQ : X.Q = MQ X.below (Qi X.G a post) X.av X.s 0 0 (bs_ X.G)) (hr : X.meth.sig.returnType = (some .int)) (hn : X.meth.name = "rate") (s : Sx) (x1 : Int32) (x2 : Int32) (h : w_X11_rate N x1 x2 s post) : wk X a s 4 0 [(0, .ref (adr X.G a 0 0)), (1, .int x1), (2, .int x2)] [] 0 0 := by
  unfold w_X11_rate at h
  refine k_iload_n hC (pc := 0) dX11_rate_0 1 rfl ?_
  refine k_ci (rn_S hC (pc := 1) (As := [.int x1]) (rest := []) ca_X11_isKind ml_RX11_99 sm_X11_isKind (ct_X11_isKind x1 h) (by rw [hR]; exact ⟨rfl, rfl, by decide, by decide⟩) rfl (Nat.le_of_ble_eq_true rfl) dX11_rate_1 ⟨by rw [hR]; decide, by rw [hR]; decide⟩) (fun r_2 s_1 h => ?_)
  refine k_if_eq hC (pc := 4) 18 dX11_rate_4 (by decide) (fun c_3 => ?_) (fun c_3 => ?_)
  · have h := h.1 c_3
    refine k_bipush hC (pc := 18) (v := (-2)) dX11_rate_18 bp_m2 ?_
    exact k_iret hC (pc := 20) hQ hr dX11_rate_20 h
  · have h := h.2 c_3
    refine k_iload_n hC (pc := 7) dX11_rate_7 2 rfl ?_
    refine k_iconst hC (pc := 8) (v := 0) dX11_rate_8 ic_0 ?_
    refine k_sipush hC (pc := 9) (v := 999) dX11_rate_9 sp_999 ?_
    refine k_ci (rn_S hC (pc := 12) (As := [.int x2, .int 0, .int 999]) (rest := []) ca_X11_isWithin ml_RX11_80 sm_X11_isWithin (ct_X11_isWithin x2 0 999 h) (by rw [hR]; exact ⟨rfl, rfl, by decide, by decide⟩) rfl (Nat.le_of_ble_eq_true rfl) dX11_rate_12 ⟨by rw [hR]; decide, by rw [hR]; decide⟩) (fun r_5 s_4 h => ?_)
    refine k_if_ne hC (pc := 15) 21 dX11_rate_15 (by decide) (fun c_6 => ?_) (fun c_6 => ?_)
    · have h := h.1 c_6
      refine k_aload_n hC (pc := 21) dX11_rate_21 0 rfl ?_
      refine gf_X11_8 hC (pc := 22)  fl_RX11_37 dX11_rate_22 ?_
      refine gf_X4_0 hC (pc := 25)  fl_RX11_200 dX11_rate_25 ?_
      refine k_iload_n hC (pc := 28) dX11_rate_28 1 rfl ?_
      obtain ⟨c_7, h⟩ := h
      refine r_iald hC (pc := 29) ra0_10 c_7 dX11_rate_29 ?_
      refine k_topi (fun x_8 h_x_8 => ?_)
      have h := h x_8 h_x_8
      refine k_istore_n hC (pc := 30) dX11_rate_30 [(3, .int x_8), (0, .ref (adr X.G a 0 0)), (1, .int x1), (2, .int x2)] (by decide) rfl ?_
      refine k_aload_n hC (pc := 31) dX11_rate_31 1 rfl ?_
      refine gf_X11_8 hC (pc := 32)  fl_RX11_37 dX11_rate_32 ?_
      refine gf_X4_0 hC (pc := 35)  fl_RX11_200 dX11_rate_35 ?_
      refine k_iload_n hC (pc := 38) dX11_rate_38 2 rfl ?_
      refine k_iload_n hC (pc := 39) dX11_rate_39 3 rfl ?_
      obtain ⟨c_9, h⟩ := h
      refine r_iast hC (pc := 40) ra0_10 c_9 dX11_rate_40 (fun s_10 h_s_10 => ?_)
      have h := h s_10 h_s_10
      refine k_iload_n hC (pc := 41) dX11_rate_41 0 rfl ?_
      exact k_iret hC (pc := 42) hQ hr dX11_rate_42 h
    · have h := h.2 c_6
      refine k_bipush hC (pc := 18) (v := (-2)) dX11_rate_18 bp_m2 ?_
      exact k_iret hC (pc := 20) hQ hr dX11_rate_20 h
theorem ct_X11_rate {l : Launch} {G : Gx} {a : Ax} {s : Sx} {N : Nat} {post : Int32 → Sx → Prop} (x1 : Int32) (x2 : Int32) (h : w_X11_rate N x1 x2 s post) : Met l yX11_rate (Cond.code yX11_rate cX11_rate 4 (some .int) :: gw) { frames := 2, cells := 0, slots := 0, locals := 42 } (va_Pc [.ref (adr G a 0 0), .int x1, .int x2] (fun U => FU G a s U)) (Qi G a post) 0 0 (bs_ G) := met_of (plainFor_of_name (by decide)) (Nat.le_of_ble_eq_true rfl) rfl (fun X hC hl hR hQ hr hG hn => by subst hG; exact b_X11_rate hC hR hQ hr hn s x1 x2 h)
theorem ca_X11_rate : Ca yX11_rate cX11_rate 4 (some .int) 2 := ⟨cd_X11_rate, ii_RX11, by decide, by decide, by decide +kernel⟩
def w_X11_home (N : Nat) (x1 : Int32) (x2 : Int32) (s : Sx) (post : Int32 → Sx → Prop) : Prop := w_X11_isWithin N x2 1 100 s (fun r_2 s_1 => (r_2 = 0 → post ((-2)) s_1) ∧ (¬ (r_2 = 0) → w_X11_isWithin N x1 0 x2 s_1 (fun r_5 s_4 => (¬ r_5 = 0 → w_X4_changeHome N x1 x2 s_4 (fun r_8 s_7 => (r_8 = 0 → post 0 s_7) ∧ (¬ (r_8 = 0) → post 1 s_7))) ∧ (¬ (¬ r_5 = 0) → post ((-2)) s_4))))
set_option maxHeartbeats 4000000 in
theorem b_X11_home {X : Kx} {a : Ax} {N : Nat} {post : Int32 → Sx → Prop} (hC : Cx X cX11_home 3 RX11) (hR : X.R = { frames := 1, cells := 0, slots := 0, locals := 23 }) (hQ : X.Q = MQ X.below (Qi X.G a post) X.av X.s 0 0 (bs_ X.G)) (hr : X.meth.sig.returnType = (some .int)) (hn : X.meth.name = "home") (s : Sx) (x1 : Int32) (x2 : Int32) (h : w_X11_home N x1 x2 s post) : wk X a s 3 0 [(0, .ref (adr X.G a 0 0)), (1, .int x1), (2, .int x2)] [] 0 0 := by
  unfold w_X11_home at h
  refine k_iload_n hC (pc := 0) dX11_home_0 2 rfl ?_
  refine k_iconst hC (pc := 1) (v := 1) dX11_home_1 ic_1 ?_
  refine k_bipush hC (pc := 2) (v := 100) dX11_home_2 bp_100 ?_
  refine k_ci (rn_S hC (pc := 4) (As := [.int x2, .int 1, .int 100]) (rest := []) ca_X11_isWithin ml_RX11_80 sm_X11_isWithin (ct_X11_isWithin x2 1 100 h) (by rw [hR]; exact ⟨rfl, rfl, by decide, by decide⟩) rfl (Nat.le_of_ble_eq_true rfl) dX11_home_4 ⟨by rw [hR]; decide, by rw [hR]; decide⟩) (fun r_2 s_1 h => ?_)
  refine k_if_eq hC (pc := 7) 19 dX11_home_7 (by decide) (fun c_3 => ?_) (fun c_3 => ?_)
  · have h := h.1 c_3
    refine k_bipush hC (pc := 19) (v := (-2)) dX11_home_19 bp_m2 ?_
    exact k_iret hC (pc := 21) hQ hr dX11_home_21 h
  · have h := h.2 c_3
    refine k_iload_n hC (pc := 10) dX11_home_10 1 rfl ?_
    refine k_iconst hC (pc := 11) (v := 0) dX11_home_11 ic_0 ?_
    refine k_iload_n hC (pc := 12) dX11_home_12 2 rfl ?_
    refine k_ci (rn_S hC (pc := 13) (As := [.int x1, .int 0, .int x2]) (rest := []) ca_X11_isWithin ml_RX11_80 sm_X11_isWithin (ct_X11_isWithin x1 0 x2 h) (by rw [hR]; exact ⟨rfl, rfl, by decide, by decide⟩) rfl (Nat.le_of_ble_eq_true rfl) dX11_home_13 ⟨by rw [hR]; decide, by rw [hR]; decide⟩) (fun r_5 s_4 h => ?_)
    refine k_if_ne hC (pc := 16) 22 dX11_home_16 (by decide) (fun c_6 => ?_) (fun c_6 => ?_)
    · have h := h.1 c_6
      refine k_aload_n hC (pc := 22) dX11_home_22 0 rfl ?_
      refine gf_X11_8 hC (pc := 23)  fl_RX11_37 dX11_home_23 ?_
      refine k_iload_n hC (pc := 26) dX11_home_26 1 rfl ?_
      refine k_iload_n hC (pc := 27) dX11_home_27 2 rfl ?_
      refine k_ci (rn_V hC (pc := 28) (As := [.int x1, .int x2]) (rest := []) ca_X4_changeHome ml_RX11_203 im_X4_changeHome se_X4_changeHome (fx_in f0_9) (ob0_9 _ _ _ _ _) rfl rfl (ct_X4_changeHome x1 x2 h) (by rw [hR]; exact ⟨rfl, rfl, by decide, by decide⟩) rfl (Nat.le_of_ble_eq_true rfl) dX11_home_28 ⟨by rw [hR]; decide, by rw [hR]; decide⟩) (fun r_8 s_7 h => ?_)
      refine k_if_eq hC (pc := 31) 38 dX11_home_31 (by decide) (fun c_9 => ?_) (fun c_9 => ?_)
      · have h := h.1 c_9
        refine k_iconst hC (pc := 38) (v := 0) dX11_home_38 ic_0 ?_
        exact k_iret hC (pc := 39) hQ hr dX11_home_39 h
      · have h := h.2 c_9
        refine k_iconst hC (pc := 34) (v := 1) dX11_home_34 ic_1 ?_
        refine k_goto hC (pc := 35) 39 dX11_home_35 (by decide) ?_
        exact k_iret hC (pc := 39) hQ hr dX11_home_39 h
    · have h := h.2 c_6
      refine k_bipush hC (pc := 19) (v := (-2)) dX11_home_19 bp_m2 ?_
      exact k_iret hC (pc := 21) hQ hr dX11_home_21 h
theorem ct_X11_home {l : Launch} {G : Gx} {a : Ax} {s : Sx} {N : Nat} {post : Int32 → Sx → Prop} (x1 : Int32) (x2 : Int32) (h : w_X11_home N x1 x2 s post) : Met l yX11_home (Cond.code yX11_home cX11_home 3 (some .int) :: gw) { frames := 1, cells := 0, slots := 0, locals := 23 } (va_Pc [.ref (adr G a 0 0), .int x1, .int x2] (fun U => FU G a s U)) (Qi G a post) 0 0 (bs_ G) := met_of (plainFor_of_name (by decide)) (Nat.le_of_ble_eq_true rfl) rfl (fun X hC hl hR hQ hr hG hn => by subst hG; exact b_X11_home hC hR hQ hr hn s x1 x2 h)
theorem ca_X11_home : Ca yX11_home cX11_home 3 (some .int) 2 := ⟨cd_X11_home, ii_RX11, by decide, by decide, by decide +kernel⟩
def w_X11_fine (N : Nat) (x1 : Int32) (x2 : Int32) (x3 : Int32) (s : Sx) (post : Int32 → Sx → Prop) : Prop := w_X11_isMan N x1 s (fun r_2 s_1 => (¬ r_2 = 0 → w_X11_isDay N x2 s_1 (fun r_5 s_4 => (r_5 = 0 → post ((-2)) s_4) ∧ (¬ (r_5 = 0) → w_X11_isWithin N x3 1 9999 s_4 (fun r_8 s_7 => (¬ r_8 = 0 → w_X4_addFine N x1 x2 x3 s_7 (fun r_11 s_10 => post r_11 s_10)) ∧ (¬ (¬ r_8 = 0) → post ((-2)) s_7))))) ∧ (¬ (¬ r_2 = 0) → post ((-1)) s_1))
set_option maxHeartbeats 4000000 in
theorem b_X11_fine {X : Kx} {a : Ax} {N : Nat} {post : Int32 → Sx → Prop} (hC : Cx X cX11_fine 4 RX11) (hR : X.R = { frames := 2, cells := 0, slots := 0, locals := 43 }) (hQ : X.Q = MQ X.below (Qi X.G a post) X.av X.s 0 0 (bs_ X.G)) (hr : X.meth.sig.returnType = (some .int)) (hn : X.meth.name = "fine") (s : Sx) (x1 : Int32) (x2 : Int32) (x3 : Int32) (h : w_X11_fine N x1 x2 x3 s post) : wk X a s 4 0 [(0, .ref (adr X.G a 0 0)), (1, .int x1), (2, .int x2), (3, .int x3)] [] 0 0 := by
  unfold w_X11_fine at h
  refine k_aload_n hC (pc := 0) dX11_fine_0 0 rfl ?_
  refine k_iload_n hC (pc := 1) dX11_fine_1 1 rfl ?_
  refine k_ci (rn_V hC (pc := 2) (As := [.int x1]) (rest := []) ca_X11_isMan ml_RX11_92 im_X11_isMan se_X11_isMan (fx_in f0_0) (ob0_0 _ _ _ _ _) rfl rfl (ct_X11_isMan x1 h) (by rw [hR]; exact ⟨rfl, rfl, by decide, by decide⟩) rfl (Nat.le_of_ble_eq_true rfl) dX11_fine_2 ⟨by rw [hR]; decide, by rw [hR]; decide⟩) (fun r_2 s_1 h => ?_)
  refine k_if_ne hC (pc := 5) 10 dX11_fine_5 (by decide) (fun c_3 => ?_) (fun c_3 => ?_)
  · have h := h.1 c_3
    refine k_iload_n hC (pc := 10) dX11_fine_10 2 rfl ?_
    refine k_ci (rn_S hC (pc := 11) (As := [.int x2]) (rest := []) ca_X11_isDay ml_RX11_114 sm_X11_isDay (ct_X11_isDay x2 h) (by rw [hR]; exact ⟨rfl, rfl, by decide, by decide⟩) rfl (Nat.le_of_ble_eq_true rfl) dX11_fine_11 ⟨by rw [hR]; decide, by rw [hR]; decide⟩) (fun r_5 s_4 h => ?_)
    refine k_if_eq hC (pc := 14) 28 dX11_fine_14 (by decide) (fun c_6 => ?_) (fun c_6 => ?_)
    · have h := h.1 c_6
      refine k_bipush hC (pc := 28) (v := (-2)) dX11_fine_28 bp_m2 ?_
      exact k_iret hC (pc := 30) hQ hr dX11_fine_30 h
    · have h := h.2 c_6
      refine k_iload_n hC (pc := 17) dX11_fine_17 3 rfl ?_
      refine k_iconst hC (pc := 18) (v := 1) dX11_fine_18 ic_1 ?_
      refine k_sipush hC (pc := 19) (v := 9999) dX11_fine_19 sp_9999 ?_
      refine k_ci (rn_S hC (pc := 22) (As := [.int x3, .int 1, .int 9999]) (rest := []) ca_X11_isWithin ml_RX11_80 sm_X11_isWithin (ct_X11_isWithin x3 1 9999 h) (by rw [hR]; exact ⟨rfl, rfl, by decide, by decide⟩) rfl (Nat.le_of_ble_eq_true rfl) dX11_fine_22 ⟨by rw [hR]; decide, by rw [hR]; decide⟩) (fun r_8 s_7 h => ?_)
      refine k_if_ne hC (pc := 25) 31 dX11_fine_25 (by decide) (fun c_9 => ?_) (fun c_9 => ?_)
      · have h := h.1 c_9
        refine k_aload_n hC (pc := 31) dX11_fine_31 0 rfl ?_
        refine gf_X11_8 hC (pc := 32)  fl_RX11_37 dX11_fine_32 ?_
        refine k_iload_n hC (pc := 35) dX11_fine_35 1 rfl ?_
        refine k_iload_n hC (pc := 36) dX11_fine_36 2 rfl ?_
        refine k_iload_n hC (pc := 37) dX11_fine_37 3 rfl ?_
        refine k_ci (rn_V hC (pc := 38) (As := [.int x1, .int x2, .int x3]) (rest := []) ca_X4_addFine ml_RX11_206 im_X4_addFine se_X4_addFine (fx_in f0_9) (ob0_9 _ _ _ _ _) rfl rfl (ct_X4_addFine x1 x2 x3 h) (by rw [hR]; exact ⟨rfl, rfl, by decide, by decide⟩) rfl (Nat.le_of_ble_eq_true rfl) dX11_fine_38 ⟨by rw [hR]; decide, by rw [hR]; decide⟩) (fun r_11 s_10 h => ?_)
        exact k_iret hC (pc := 41) hQ hr dX11_fine_41 h
      · have h := h.2 c_9
        refine k_bipush hC (pc := 28) (v := (-2)) dX11_fine_28 bp_m2 ?_
        exact k_iret hC (pc := 30) hQ hr dX11_fine_30 h
  · have h := h.2 c_3
    refine k_iconst hC (pc := 8) (v := (-1)) dX11_fine_8 ic_m1 ?_
    exact k_iret hC (pc := 9) hQ hr dX11_fine_9 h
theorem ct_X11_fine {l : Launch} {G : Gx} {a : Ax} {s : Sx} {N : Nat} {post : Int32 → Sx → Prop} (x1 : Int32) (x2 : Int32) (x3 : Int32) (h : w_X11_fine N x1 x2 x3 s post) : Met l yX11_fine (Cond.code yX11_fine cX11_fine 4 (some .int) :: gw) { frames := 2, cells := 0, slots := 0, locals := 43 } (va_Pc [.ref (adr G a 0 0), .int x1, .int x2, .int x3] (fun U => FU G a s U)) (Qi G a post) 0 0 (bs_ G) := met_of (plainFor_of_name (by decide)) (Nat.le_of_ble_eq_true rfl) rfl (fun X hC hl hR hQ hr hG hn => by subst hG; exact b_X11_fine hC hR hQ hr hn s x1 x2 x3 h)
theorem ca_X11_fine : Ca yX11_fine cX11_fine 4 (some .int) 3 := ⟨cd_X11_fine, ii_RX11, by decide, by decide, by decide +kernel⟩
def w_X11_pay (N : Nat) (x1 : Int32) (x2 : Int32) (x3 : Int32) (x4 : Int32) (s : Sx) (post : Int32 → Sx → Prop) : Prop := w_X11_isMan N x1 s (fun r_2 s_1 => (¬ r_2 = 0 → w_X11_areDays N x2 x3 s_1 (fun r_5 s_4 => (¬ r_5 = 0 → w_X4_earnedOn N x1 x2 x3 s_4 (fun r_8 s_7 => w_X4_sentHome N r_8 s_7 (fun r_10 s_9 => w_X4_finesOf N x1 x2 x3 s_9 (fun r_12 s_11 => w_J9_min_7cf53 N r_12 (r_8 - r_10) s_11 (fun r_14 s_13 => (x4 = 0 → post r_8 s_13) ∧ (¬ (x4 = 0) → (x4 = 1 → post r_10 s_13) ∧ (¬ (x4 = 1) → (x4 = 2 → post r_14 s_13) ∧ (¬ (x4 = 2) → (x4 = 3 → post ((r_8 - r_10) - r_14) s_13) ∧ (¬ (x4 = 3) → (x4 = 4 → post (r_12 - r_14) s_13) ∧ (¬ (x4 = 4) → post ((-2)) s_13)))))))))) ∧ (¬ (¬ r_5 = 0) → post ((-2)) s_4))) ∧ (¬ (¬ r_2 = 0) → post ((-1)) s_1))
set_option maxHeartbeats 4000000 in
theorem b_X11_pay {X : Kx} {a : Ax} {N : Nat} {post : Int32 → Sx → Prop} (hC : Cx X cX11_pay 9 RX11) (hR : X.R = { frames := 3, cells := 0, slots := 0, locals := 72 }) (hQ : X.Q = MQ X.below (Qi X.G a post) X.av X.s 0 0 (bs_ X.G)) (hr : X.meth.sig.returnType = (some .int)) (hn : X.meth.name = "pay") (s : Sx) (x1 : Int32) (x2 : Int32) (x3 : Int32) (x4 : Int32) (h : w_X11_pay N x1 x2 x3 x4 s post) : wk X a s 9 0 [(0, .ref (adr X.G a 0 0)), (1, .int x1), (2, .int x2), (3, .int x3), (4, .int x4)] [] 0 0 := by
  unfold w_X11_pay at h
  refine k_aload_n hC (pc := 0) dX11_pay_0 0 rfl ?_
  refine k_iload_n hC (pc := 1) dX11_pay_1 1 rfl ?_
  refine k_ci (rn_V hC (pc := 2) (As := [.int x1]) (rest := []) ca_X11_isMan ml_RX11_92 im_X11_isMan se_X11_isMan (fx_in f0_0) (ob0_0 _ _ _ _ _) rfl rfl (ct_X11_isMan x1 h) (by rw [hR]; exact ⟨rfl, rfl, by decide, by decide⟩) rfl (Nat.le_of_ble_eq_true rfl) dX11_pay_2 ⟨by rw [hR]; decide, by rw [hR]; decide⟩) (fun r_2 s_1 h => ?_)
  refine k_if_ne hC (pc := 5) 10 dX11_pay_5 (by decide) (fun c_3 => ?_) (fun c_3 => ?_)
  · have h := h.1 c_3
    refine k_iload_n hC (pc := 10) dX11_pay_10 2 rfl ?_
    refine k_iload_n hC (pc := 11) dX11_pay_11 3 rfl ?_
    refine k_ci (rn_S hC (pc := 12) (As := [.int x2, .int x3]) (rest := []) ca_X11_areDays ml_RX11_102 sm_X11_areDays (ct_X11_areDays x2 x3 h) (by rw [hR]; exact ⟨rfl, rfl, by decide, by decide⟩) rfl (Nat.le_of_ble_eq_true rfl) dX11_pay_12 ⟨by rw [hR]; decide, by rw [hR]; decide⟩) (fun r_5 s_4 h => ?_)
    refine k_if_ne hC (pc := 15) 21 dX11_pay_15 (by decide) (fun c_6 => ?_) (fun c_6 => ?_)
    · have h := h.1 c_6
      refine k_aload_n hC (pc := 21) dX11_pay_21 0 rfl ?_
      refine gf_X11_8 hC (pc := 22)  fl_RX11_37 dX11_pay_22 ?_
      refine k_aload_n hC (pc := 25) dX11_pay_25 0 rfl ?_
      refine gf_X11_2 hC (pc := 26)  fl_RX11_20 dX11_pay_26 ?_
      refine k_iload_n hC (pc := 29) dX11_pay_29 1 rfl ?_
      refine k_iload_n hC (pc := 30) dX11_pay_30 2 rfl ?_
      refine k_iload_n hC (pc := 31) dX11_pay_31 3 rfl ?_
      refine k_ci (rn_V hC (pc := 32) (As := [.ref (adr X.G a 0 6), .int x1, .int x2, .int x3]) (rest := []) ca_X4_earnedOn ml_RX11_209 im_X4_earnedOn se_X4_earnedOn (fx_in f0_9) (ob0_9 _ _ _ _ _) rfl rfl (ct_X4_earnedOn x1 x2 x3 h) (by rw [hR]; exact ⟨rfl, rfl, by decide, by decide⟩) rfl (Nat.le_of_ble_eq_true rfl) dX11_pay_32 ⟨by rw [hR]; decide, by rw [hR]; decide⟩) (fun r_8 s_7 h => ?_)
      refine k_istore hC (pc := 35) dX11_pay_35 [(5, .int r_8), (0, .ref (adr X.G a 0 0)), (1, .int x1), (2, .int x2), (3, .int x3), (4, .int x4)] (by decide) rfl ?_
      refine k_aload_n hC (pc := 37) dX11_pay_37 1 rfl ?_
      refine gf_X11_8 hC (pc := 38)  fl_RX11_37 dX11_pay_38 ?_
      refine k_iload hC (pc := 41) dX11_pay_41 0 rfl ?_
      refine k_ci (rn_V hC (pc := 43) (As := [.int r_8]) (rest := []) ca_X4_sentHome ml_RX11_213 im_X4_sentHome se_X4_sentHome (fx_in f0_9) (ob0_9 _ _ _ _ _) rfl rfl (ct_X4_sentHome r_8 h) (by rw [hR]; exact ⟨rfl, rfl, by decide, by decide⟩) rfl (Nat.le_of_ble_eq_true rfl) dX11_pay_43 ⟨by rw [hR]; decide, by rw [hR]; decide⟩) (fun r_10 s_9 h => ?_)
      refine k_istore hC (pc := 46) dX11_pay_46 [(6, .int r_10), (5, .int r_8), (0, .ref (adr X.G a 0 0)), (1, .int x1), (2, .int x2), (3, .int x3), (4, .int x4)] (by decide) rfl ?_
      refine k_aload_n hC (pc := 48) dX11_pay_48 2 rfl ?_
      refine gf_X11_8 hC (pc := 49)  fl_RX11_37 dX11_pay_49 ?_
      refine k_iload_n hC (pc := 52) dX11_pay_52 3 rfl ?_
      refine k_iload_n hC (pc := 53) dX11_pay_53 4 rfl ?_
      refine k_iload_n hC (pc := 54) dX11_pay_54 5 rfl ?_
      refine k_ci (rn_V hC (pc := 55) (As := [.int x1, .int x2, .int x3]) (rest := []) ca_X4_finesOf ml_RX11_216 im_X4_finesOf se_X4_finesOf (fx_in f0_9) (ob0_9 _ _ _ _ _) rfl rfl (ct_X4_finesOf x1 x2 x3 h) (by rw [hR]; exact ⟨rfl, rfl, by decide, by decide⟩) rfl (Nat.le_of_ble_eq_true rfl) dX11_pay_55 ⟨by rw [hR]; decide, by rw [hR]; decide⟩) (fun r_12 s_11 h => ?_)
      refine k_istore hC (pc := 58) dX11_pay_58 [(7, .int r_12), (6, .int r_10), (5, .int r_8), (0, .ref (adr X.G a 0 0)), (1, .int x1), (2, .int x2), (3, .int x3), (4, .int x4)] (by decide) rfl ?_
      refine k_iload hC (pc := 60) dX11_pay_60 0 rfl ?_
      refine k_iload hC (pc := 62) dX11_pay_62 2 rfl ?_
      refine k_iload hC (pc := 64) dX11_pay_64 1 rfl ?_
      refine k_isub hC (pc := 66) dX11_pay_66 ?_
      refine k_ci (rn_S hC (pc := 67) (As := [.int r_12, .int (r_8 - r_10)]) (rest := []) ca_J9_min_7cf53 ml_RX11_219 sm_J9_min_7cf53 (ct_J9_min_7cf53 r_12 (r_8 - r_10) h) (by rw [hR]; exact ⟨rfl, rfl, by decide, by decide⟩) rfl (Nat.le_of_ble_eq_true rfl) dX11_pay_67 ⟨by rw [hR]; decide, by rw [hR]; decide⟩) (fun r_14 s_13 h => ?_)
      refine k_istore hC (pc := 70) dX11_pay_70 [(8, .int r_14), (7, .int r_12), (6, .int r_10), (5, .int r_8), (0, .ref (adr X.G a 0 0)), (1, .int x1), (2, .int x2), (3, .int x3), (4, .int x4)] (by decide) rfl ?_
      refine k_iload hC (pc := 72) dX11_pay_72 8 rfl ?_
      by_cases c_15 : x4 = 0
      · have h := h.1 c_15
        refine k_tsIn hC (pc := 74) (x := x4) 108 dX11_pay_74 (by rw [c_15]; decide) (by rw [c_15]; decide) (by rw [c_15]; rfl) (by decide) ?_
        refine k_iload hC (pc := 108) dX11_pay_108 3 rfl ?_
        exact k_iret hC (pc := 110) hQ hr dX11_pay_110 h
      · have h := h.2 c_15
        by_cases c_16 : x4 = 1
        · have h := h.1 c_16
          refine k_tsIn hC (pc := 74) (x := x4) 111 dX11_pay_74 (by rw [c_16]; decide) (by rw [c_16]; decide) (by rw [c_16]; rfl) (by decide) ?_
          refine k_iload hC (pc := 111) dX11_pay_111 2 rfl ?_
          exact k_iret hC (pc := 113) hQ hr dX11_pay_113 h
        · have h := h.2 c_16
          by_cases c_17 : x4 = 2
          · have h := h.1 c_17
            refine k_tsIn hC (pc := 74) (x := x4) 114 dX11_pay_74 (by rw [c_17]; decide) (by rw [c_17]; decide) (by rw [c_17]; rfl) (by decide) ?_
            refine k_iload hC (pc := 114) dX11_pay_114 0 rfl ?_
            exact k_iret hC (pc := 116) hQ hr dX11_pay_116 h
          · have h := h.2 c_17
            by_cases c_18 : x4 = 3
            · have h := h.1 c_18
              refine k_tsIn hC (pc := 74) (x := x4) 117 dX11_pay_74 (by rw [c_18]; decide) (by rw [c_18]; decide) (by rw [c_18]; rfl) (by decide) ?_
              refine k_iload hC (pc := 117) dX11_pay_117 3 rfl ?_
              refine k_iload hC (pc := 119) dX11_pay_119 2 rfl ?_
              refine k_isub hC (pc := 121) dX11_pay_121 ?_
              refine k_iload hC (pc := 122) dX11_pay_122 0 rfl ?_
              refine k_isub hC (pc := 124) dX11_pay_124 ?_
              exact k_iret hC (pc := 125) hQ hr dX11_pay_125 h
            · have h := h.2 c_18
              by_cases c_19 : x4 = 4
              · have h := h.1 c_19
                refine k_tsIn hC (pc := 74) (x := x4) 126 dX11_pay_74 (by rw [c_19]; decide) (by rw [c_19]; decide) (by rw [c_19]; rfl) (by decide) ?_
                refine k_iload hC (pc := 126) dX11_pay_126 1 rfl ?_
                refine k_iload hC (pc := 128) dX11_pay_128 0 rfl ?_
                refine k_isub hC (pc := 130) dX11_pay_130 ?_
                exact k_iret hC (pc := 131) hQ hr dX11_pay_131 h
              · have h := h.2 c_19
                refine k_tsOut hC (pc := 74) (x := x4) 132 dX11_pay_74 (ts_out5 c_15 c_16 c_17 c_18 c_19) (by decide) ?_
                refine k_bipush hC (pc := 132) (v := (-2)) dX11_pay_132 bp_m2 ?_
                exact k_iret hC (pc := 134) hQ hr dX11_pay_134 h
    · have h := h.2 c_6
      refine k_bipush hC (pc := 18) (v := (-2)) dX11_pay_18 bp_m2 ?_
      exact k_iret hC (pc := 20) hQ hr dX11_pay_20 h
  · have h := h.2 c_3
    refine k_iconst hC (pc := 8) (v := (-1)) dX11_pay_8 ic_m1 ?_
    exact k_iret hC (pc := 9) hQ hr dX11_pay_9 h
theorem ct_X11_pay {l : Launch} {G : Gx} {a : Ax} {s : Sx} {N : Nat} {post : Int32 → Sx → Prop} (x1 : Int32) (x2 : Int32) (x3 : Int32) (x4 : Int32) (h : w_X11_pay N x1 x2 x3 x4 s post) : Met l yX11_pay (Cond.code yX11_pay cX11_pay 9 (some .int) :: gw) { frames := 3, cells := 0, slots := 0, locals := 72 } (va_Pc [.ref (adr G a 0 0), .int x1, .int x2, .int x3, .int x4] (fun U => FU G a s U)) (Qi G a post) 0 0 (bs_ G) := met_of (plainFor_of_name (by decide)) (Nat.le_of_ble_eq_true rfl) rfl (fun X hC hl hR hQ hr hG hn => by subst hG; exact b_X11_pay hC hR hQ hr hn s x1 x2 x3 x4 h)
theorem ca_X11_pay : Ca yX11_pay cX11_pay 9 (some .int) 4 := ⟨cd_X11_pay, ii_RX11, by decide, by decide, by decide +kernel⟩
def w_X11_work (N : Nat) (x1 : Int32) (x2 : Int32) (x3 : Int32) (s : Sx) (post : Int32 → Sx → Prop) : Prop := w_X0_has N x1 s (fun r_2 s_1 => (¬ r_2 = 0 → w_X11_isWithin N x2 1 9999 s_1 (fun r_5 s_4 => (r_5 = 0 → post ((-2)) s_4) ∧ (¬ (r_5 = 0) → w_X11_isWithin N x3 0 20 s_4 (fun r_8 s_7 => (¬ r_8 = 0 → w_X10_add N x1 x2 x3 s_7 (fun r_11 s_10 => post r_11 s_10)) ∧ (¬ (¬ r_8 = 0) → post ((-2)) s_7))))) ∧ (¬ (¬ r_2 = 0) → post ((-1)) s_1))
set_option maxHeartbeats 4000000 in
theorem b_X11_work {X : Kx} {a : Ax} {N : Nat} {post : Int32 → Sx → Prop} (hC : Cx X cX11_work 4 RX11) (hR : X.R = { frames := 3, cells := 1, slots := 8, locals := 66 }) (hQ : X.Q = MQ X.below (Qa X.G post) X.av X.s 1 8 (bs_ X.G)) (hr : X.meth.sig.returnType = (some .int)) (hn : X.meth.name = "work") (s : Sx) (x1 : Int32) (x2 : Int32) (x3 : Int32) (h : w_X11_work N x1 x2 x3 s post) : wk X a s 4 0 [(0, .ref (adr X.G a 0 0)), (1, .int x1), (2, .int x2), (3, .int x3)] [] 0 0 := by
  unfold w_X11_work at h
  refine k_aload_n hC (pc := 0) dX11_work_0 0 rfl ?_
  refine gf_X11_0 hC (pc := 1)  fl_RX11_12 dX11_work_1 ?_
  refine k_iload_n hC (pc := 4) dX11_work_4 1 rfl ?_
  refine k_ci (rn_V hC (pc := 5) (As := [.int x1]) (rest := []) ca_X0_has ml_RX11_96 im_X0_has se_X0_has (fx_in f0_1) (ob0_1 _ _ _ _ _) rfl rfl (ct_X0_has x1 h) (by rw [hR]; exact ⟨rfl, rfl, by decide, by decide⟩) rfl (Nat.le_of_ble_eq_true rfl) dX11_work_5 ⟨by rw [hR]; decide, by rw [hR]; decide⟩) (fun r_2 s_1 h => ?_)
  refine k_if_ne hC (pc := 8) 13 dX11_work_8 (by decide) (fun c_3 => ?_) (fun c_3 => ?_)
  · have h := h.1 c_3
    refine k_iload_n hC (pc := 13) dX11_work_13 2 rfl ?_
    refine k_iconst hC (pc := 14) (v := 1) dX11_work_14 ic_1 ?_
    refine k_sipush hC (pc := 15) (v := 9999) dX11_work_15 sp_9999 ?_
    refine k_ci (rn_S hC (pc := 18) (As := [.int x2, .int 1, .int 9999]) (rest := []) ca_X11_isWithin ml_RX11_80 sm_X11_isWithin (ct_X11_isWithin x2 1 9999 h) (by rw [hR]; exact ⟨rfl, rfl, by decide, by decide⟩) rfl (Nat.le_of_ble_eq_true rfl) dX11_work_18 ⟨by rw [hR]; decide, by rw [hR]; decide⟩) (fun r_5 s_4 h => ?_)
    refine k_if_eq hC (pc := 21) 34 dX11_work_21 (by decide) (fun c_6 => ?_) (fun c_6 => ?_)
    · have h := h.1 c_6
      refine k_bipush hC (pc := 34) (v := (-2)) dX11_work_34 bp_m2 ?_
      refine k_widen 1 8 (by decide) (by decide) ?_
      exact k_aret hC (pc := 36) hQ hr dX11_work_36 h
    · have h := h.2 c_6
      refine k_iload_n hC (pc := 24) dX11_work_24 3 rfl ?_
      refine k_iconst hC (pc := 25) (v := 0) dX11_work_25 ic_0 ?_
      refine k_bipush hC (pc := 26) (v := 20) dX11_work_26 bp_20 ?_
      refine k_ci (rn_S hC (pc := 28) (As := [.int x3, .int 0, .int 20]) (rest := []) ca_X11_isWithin ml_RX11_80 sm_X11_isWithin (ct_X11_isWithin x3 0 20 h) (by rw [hR]; exact ⟨rfl, rfl, by decide, by decide⟩) rfl (Nat.le_of_ble_eq_true rfl) dX11_work_28 ⟨by rw [hR]; decide, by rw [hR]; decide⟩) (fun r_8 s_7 h => ?_)
      refine k_if_ne hC (pc := 31) 37 dX11_work_31 (by decide) (fun c_9 => ?_) (fun c_9 => ?_)
      · have h := h.1 c_9
        refine k_aload_n hC (pc := 37) dX11_work_37 0 rfl ?_
        refine gf_X11_9 hC (pc := 38)  fl_RX11_44 dX11_work_38 ?_
        refine k_iload_n hC (pc := 41) dX11_work_41 1 rfl ?_
        refine k_iload_n hC (pc := 42) dX11_work_42 2 rfl ?_
        refine k_iload_n hC (pc := 43) dX11_work_43 3 rfl ?_
        refine k_ca (rn_V hC (pc := 44) (As := [.int x1, .int x2, .int x3]) (rest := []) ca_X10_add ml_RX11_224 im_X10_add se_X10_add (fx_in f0_14) (ob0_14 _ _ _ _ _) rfl rfl (ct_X10_add x1 x2 x3 h) (by rw [hR]; exact ⟨rfl, rfl, by decide, by decide⟩) rfl (Nat.le_of_ble_eq_true rfl) dX11_work_44 ⟨by rw [hR]; decide, by rw [hR]; decide⟩) (fun r_11 a_12 s_10 h => ?_)
        exact k_aret hC (pc := 47) hQ hr dX11_work_47 h
      · have h := h.2 c_9
        refine k_bipush hC (pc := 34) (v := (-2)) dX11_work_34 bp_m2 ?_
        refine k_widen 1 8 (by decide) (by decide) ?_
        exact k_aret hC (pc := 36) hQ hr dX11_work_36 h
  · have h := h.2 c_3
    refine k_iconst hC (pc := 11) (v := (-1)) dX11_work_11 ic_m1 ?_
    refine k_widen 1 8 (by decide) (by decide) ?_
    exact k_aret hC (pc := 12) hQ hr dX11_work_12 h
theorem ct_X11_work {l : Launch} {G : Gx} {a : Ax} {s : Sx} {N : Nat} {post : Int32 → Sx → Prop} (x1 : Int32) (x2 : Int32) (x3 : Int32) (h : w_X11_work N x1 x2 x3 s post) : Met l yX11_work (Cond.code yX11_work cX11_work 4 (some .int) :: gw) { frames := 3, cells := 1, slots := 8, locals := 66 } (va_Pc [.ref (adr G a 0 0), .int x1, .int x2, .int x3] (fun U => FU G a s U)) (Qa G post) 1 8 (bs_ G) := met_of (plainFor_of_name (by decide)) (Nat.le_of_ble_eq_true rfl) rfl (fun X hC hl hR hQ hr hG hn => by subst hG; exact b_X11_work hC hR hQ hr hn s x1 x2 x3 h)
theorem ca_X11_work : Ca yX11_work cX11_work 4 (some .int) 3 := ⟨cd_X11_work, ii_RX11, by decide, by decide, by decide +kernel⟩
def w_X11_hands (N : Nat) (x1 : Int32) (x2 : Int32) (x3 : Int32) (s : Sx) (post : Int32 → Sx → Prop) : Prop := w_X10_at N x1 s (fun o_2 s_1 => (o_2 = none → post ((-1)) s_1) ∧ (∀ j_3, o_2 = some j_3 → w_X11_isWithin N x2 0 1 s_1 (fun r_5 s_4 => (r_5 = 0 → post ((-2)) s_4) ∧ (¬ (r_5 = 0) → w_X11_isWithin N x3 0 20 s_4 (fun r_8 s_7 => (¬ r_8 = 0 → (¬ x2 = 0 → j_3 < s_7.2.2 4 ∧ w_X9_changeTools N j_3 x3 s_7 (fun r_12 s_11 => post r_12 s_11)) ∧ (¬ (¬ x2 = 0) → j_3 < s_7.2.2 4 ∧ w_X9_changeHands N j_3 x3 s_7 (fun r_14 s_13 => post r_14 s_13))) ∧ (¬ (¬ r_8 = 0) → post ((-2)) s_7))))))
set_option maxHeartbeats 4000000 in
theorem b_X11_hands {X : Kx} {a : Ax} {N : Nat} {post : Int32 → Sx → Prop} (hC : Cx X cX11_hands 5 RX11) (hR : X.R = { frames := 2, cells := 0, slots := 0, locals := 43 }) (hQ : X.Q = MQ X.below (Qi X.G a post) X.av X.s 0 0 (bs_ X.G)) (hr : X.meth.sig.returnType = (some .int)) (hn : X.meth.name = "hands") (s : Sx) (x1 : Int32) (x2 : Int32) (x3 : Int32) (h : w_X11_hands N x1 x2 x3 s post) : wk X a s 5 0 [(0, .ref (adr X.G a 0 0)), (1, .int x1), (2, .int x2), (3, .int x3)] [] 0 0 := by
  unfold w_X11_hands at h
  refine k_aload_n hC (pc := 0) dX11_hands_0 0 rfl ?_
  refine gf_X11_9 hC (pc := 1)  fl_RX11_44 dX11_hands_1 ?_
  refine k_iload_n hC (pc := 4) dX11_hands_4 1 rfl ?_
  refine k_cq (k := 3) (off := 0) (rn_V hC (pc := 5) (As := [.int x1]) (rest := []) ca_X10_at ml_RX11_225 im_X10_at se_X10_at (fx_in f0_14) (ob0_14 _ _ _ _ _) rfl rfl (ct_X10_at x1 h) (by rw [hR]; exact ⟨rfl, rfl, by decide, by decide⟩) rfl (Nat.le_of_ble_eq_true rfl) dX11_hands_5 ⟨by rw [hR]; decide, by rw [hR]; decide⟩) (fun s_1 h => ?_) (fun j_3 s_1 h => ?_)
  · have h := h.1 rfl
    refine k_astoreN hC (pc := 8) dX11_hands_8 [(4, .null), (0, .ref (adr X.G a 0 0)), (1, .int x1), (2, .int x2), (3, .int x3)] (by decide) rfl ?_
    refine k_aloadN hC (pc := 10) dX11_hands_10 0 rfl ?_
    refine k_ifnonnullN hC (pc := 12) dX11_hands_12 ?_
    refine k_iconst hC (pc := 15) (v := (-1)) dX11_hands_15 ic_m1 ?_
    exact k_iret hC (pc := 16) hQ hr dX11_hands_16 h
  · have h := h.2 j_3 rfl
    refine k_eqz ?_
    refine k_astore hC (pc := 8) dX11_hands_8 [(4, .ref (adr X.G a 3 j_3)), (0, .ref (adr X.G a 0 0)), (1, .int x1), (2, .int x2), (3, .int x3)] (by decide) rfl ?_
    refine k_aload hC (pc := 10) dX11_hands_10 0 rfl ?_
    refine k_ifnonnull hC (pc := 12) 17 dX11_hands_12 (by decide) ?_
    refine k_iload_n hC (pc := 17) dX11_hands_17 3 rfl ?_
    refine k_iconst hC (pc := 18) (v := 0) dX11_hands_18 ic_0 ?_
    refine k_iconst hC (pc := 19) (v := 1) dX11_hands_19 ic_1 ?_
    refine k_ci (rn_S hC (pc := 20) (As := [.int x2, .int 0, .int 1]) (rest := []) ca_X11_isWithin ml_RX11_80 sm_X11_isWithin (ct_X11_isWithin x2 0 1 h) (by rw [hR]; exact ⟨rfl, rfl, by decide, by decide⟩) rfl (Nat.le_of_ble_eq_true rfl) dX11_hands_20 ⟨by rw [hR]; decide, by rw [hR]; decide⟩) (fun r_5 s_4 h => ?_)
    refine k_if_eq hC (pc := 23) 36 dX11_hands_23 (by decide) (fun c_6 => ?_) (fun c_6 => ?_)
    · have h := h.1 c_6
      refine k_bipush hC (pc := 36) (v := (-2)) dX11_hands_36 bp_m2 ?_
      exact k_iret hC (pc := 38) hQ hr dX11_hands_38 h
    · have h := h.2 c_6
      refine k_iload_n hC (pc := 26) dX11_hands_26 4 rfl ?_
      refine k_iconst hC (pc := 27) (v := 0) dX11_hands_27 ic_0 ?_
      refine k_bipush hC (pc := 28) (v := 20) dX11_hands_28 bp_20 ?_
      refine k_ci (rn_S hC (pc := 30) (As := [.int x3, .int 0, .int 20]) (rest := []) ca_X11_isWithin ml_RX11_80 sm_X11_isWithin (ct_X11_isWithin x3 0 20 h) (by rw [hR]; exact ⟨rfl, rfl, by decide, by decide⟩) rfl (Nat.le_of_ble_eq_true rfl) dX11_hands_30 ⟨by rw [hR]; decide, by rw [hR]; decide⟩) (fun r_8 s_7 h => ?_)
      refine k_if_ne hC (pc := 33) 39 dX11_hands_33 (by decide) (fun c_9 => ?_) (fun c_9 => ?_)
      · have h := h.1 c_9
        refine k_iload_n hC (pc := 39) dX11_hands_39 3 rfl ?_
        refine k_if_ne hC (pc := 40) 52 dX11_hands_40 (by decide) (fun c_10 => ?_) (fun c_10 => ?_)
        · have h := h.1 c_10
          refine k_aload hC (pc := 52) dX11_hands_52 0 rfl ?_
          refine k_iload_n hC (pc := 54) dX11_hands_54 4 rfl ?_
          refine k_ci (rn_V hC (pc := 55) (As := [.int x3]) (rest := []) ca_X9_changeTools ml_RX11_234 im_X9_changeTools se_X9_changeTools (wx_in h.1) (ob3 _ _ _ _ _ _) rfl rfl (ct_X9_changeTools j_3 x3 h.2) (by rw [hR]; exact ⟨rfl, rfl, by decide, by decide⟩) rfl (Nat.le_of_ble_eq_true rfl) dX11_hands_55 ⟨by rw [hR]; decide, by rw [hR]; decide⟩) (fun r_12 s_11 h => ?_)
          exact k_iret hC (pc := 58) hQ hr dX11_hands_58 h
        · have h := h.2 c_10
          refine k_aload hC (pc := 43) dX11_hands_43 0 rfl ?_
          refine k_iload_n hC (pc := 45) dX11_hands_45 4 rfl ?_
          refine k_ci (rn_V hC (pc := 46) (As := [.int x3]) (rest := []) ca_X9_changeHands ml_RX11_229 im_X9_changeHands se_X9_changeHands (wx_in h.1) (ob3 _ _ _ _ _ _) rfl rfl (ct_X9_changeHands j_3 x3 h.2) (by rw [hR]; exact ⟨rfl, rfl, by decide, by decide⟩) rfl (Nat.le_of_ble_eq_true rfl) dX11_hands_46 ⟨by rw [hR]; decide, by rw [hR]; decide⟩) (fun r_14 s_13 h => ?_)
          refine k_goto hC (pc := 49) 58 dX11_hands_49 (by decide) ?_
          exact k_iret hC (pc := 58) hQ hr dX11_hands_58 h
      · have h := h.2 c_9
        refine k_bipush hC (pc := 36) (v := (-2)) dX11_hands_36 bp_m2 ?_
        exact k_iret hC (pc := 38) hQ hr dX11_hands_38 h
theorem ct_X11_hands {l : Launch} {G : Gx} {a : Ax} {s : Sx} {N : Nat} {post : Int32 → Sx → Prop} (x1 : Int32) (x2 : Int32) (x3 : Int32) (h : w_X11_hands N x1 x2 x3 s post) : Met l yX11_hands (Cond.code yX11_hands cX11_hands 5 (some .int) :: gw) { frames := 2, cells := 0, slots := 0, locals := 43 } (va_Pc [.ref (adr G a 0 0), .int x1, .int x2, .int x3] (fun U => FU G a s U)) (Qi G a post) 0 0 (bs_ G) := met_of (plainFor_of_name (by decide)) (Nat.le_of_ble_eq_true rfl) rfl (fun X hC hl hR hQ hr hG hn => by subst hG; exact b_X11_hands hC hR hQ hr hn s x1 x2 x3 h)
theorem ca_X11_hands : Ca yX11_hands cX11_hands 5 (some .int) 3 := ⟨cd_X11_hands, ii_RX11, by decide, by decide, by decide +kernel⟩
def w_X11_row_95 (N : Nat) (post : Int32 → Sx → Prop) (s : Sx) (x5 : Int32) (z0 : Int32) : Prop := (z0 = 0 → post ((-2)) s) ∧ (¬ (z0 = 0) → post x5 s)
def w_X11_row (N : Nat) (x1 : Int32) (x2 : Int32) (x3 : Int32) (x4 : Int32) (x5 : Int32) (s : Sx) (post : Int32 → Sx → Prop) : Prop := ∀ s_1, s_1 = setI s 0 0 14 0 → w_X11_sheetAt N x2 s_1 (fun o_3 s_2 => (o_3 = none → post ((-1)) s_2) ∧ (∀ j_4, o_3 = some j_4 → j_4 < 4 ∧ w_X11_isWithin N x1 0 1 s_2 (fun r_6 s_5 => (r_6 = 0 → post ((-2)) s_5) ∧ (¬ (r_6 = 0) → w_X11_isLane N x3 s_5 (fun r_9 s_8 => (¬ r_9 = 0 → w_X7_faultOf N j_4 x3 x4 x5 s_8 (fun r_12 s_11 => w_X11_noteFault N r_12 s_11 (fun r_14 s_13 => (r_14 = 0 → (¬ x1 = 0 → w_X8_takeTable N j_4 x4 x5 s_13 (fun r_18 s_17 => w_X11_row_95 N post s_17 x5 r_18)) ∧ (¬ (¬ x1 = 0) → w_X10_takeWeather N j_4 x4 x5 s_13 (fun r_21 s_20 => w_X11_row_95 N post s_20 x5 r_21))) ∧ (¬ (r_14 = 0) → post r_14 s_13)))) ∧ (¬ (¬ r_9 = 0) → post ((-2)) s_8))))))
set_option maxHeartbeats 4000000 in
theorem b_X11_row_95 {X : Kx} {a : Ax} {N : Nat} {post : Int32 → Sx → Prop}  (hC : Cx X cX11_row 9 RX11) (hR : X.R = { frames := 4, cells := 0, slots := 0, locals := 90 }) (hQ : X.Q = MQ X.below (Qi X.G a post) X.av X.s 0 0 (bs_ X.G)) (hr : X.meth.sig.returnType = (some .int))   (s : Sx) (x5 : Int32) (z0 : Int32) (h : w_X11_row_95 N post  s x5 z0) : wk X a s 9 95 [(5, .int x5)] [.int z0] 0 0 := by
  unfold w_X11_row_95 at h
  refine k_istore hC (pc := 95) dX11_row_95 [(8, .int z0), (5, .int x5)] (by decide) rfl ?_
  refine k_iload hC (pc := 97) dX11_row_97 0 rfl ?_
  refine k_if_eq hC (pc := 99) 107 dX11_row_99 (by decide) (fun c_19 => ?_) (fun c_19 => ?_)
  · have h := h.1 c_19
    refine k_bipush hC (pc := 107) (v := (-2)) dX11_row_107 bp_m2 ?_
    exact k_iret hC (pc := 109) hQ hr dX11_row_109 h
  · have h := h.2 c_19
    refine k_iload hC (pc := 102) dX11_row_102 1 rfl ?_
    refine k_goto hC (pc := 104) 109 dX11_row_104 (by decide) ?_
    exact k_iret hC (pc := 109) hQ hr dX11_row_109 h
set_option maxHeartbeats 4000000 in
theorem b_X11_row {X : Kx} {a : Ax} {N : Nat} {post : Int32 → Sx → Prop} (hC : Cx X cX11_row 9 RX11) (hR : X.R = { frames := 4, cells := 0, slots := 0, locals := 90 }) (hQ : X.Q = MQ X.below (Qi X.G a post) X.av X.s 0 0 (bs_ X.G)) (hr : X.meth.sig.returnType = (some .int)) (hn : X.meth.name = "row") (s : Sx) (x1 : Int32) (x2 : Int32) (x3 : Int32) (x4 : Int32) (x5 : Int32) (h : w_X11_row N x1 x2 x3 x4 x5 s post) : wk X a s 9 0 [(0, .ref (adr X.G a 0 0)), (1, .int x1), (2, .int x2), (3, .int x3), (4, .int x4), (5, .int x5)] [] 0 0 := by
  unfold w_X11_row at h
  refine k_aload_n hC (pc := 0) dX11_row_0 0 rfl ?_
  refine k_iconst hC (pc := 1) (v := 0) dX11_row_1 ic_0 ?_
  refine pf_X11_14 hC (pc := 2)  fl_RX11_136 dX11_row_2 (fun s_1 h_s_1 => ?_)
  have h := h s_1 h_s_1
  refine k_aload_n hC (pc := 5) dX11_row_5 0 rfl ?_
  refine k_iload_n hC (pc := 6) dX11_row_6 2 rfl ?_
  refine k_cq (k := 0) (off := 42) (rn_V hC (pc := 7) (As := [.int x2]) (rest := []) ca_X11_sheetAt ml_RX11_139 im_X11_sheetAt se_X11_sheetAt (fx_in f0_0) (ob0_0 _ _ _ _ _) rfl rfl (ct_X11_sheetAt x2 h) (by rw [hR]; exact ⟨rfl, rfl, by decide, by decide⟩) rfl (Nat.le_of_ble_eq_true rfl) dX11_row_7 ⟨by rw [hR]; decide, by rw [hR]; decide⟩) (fun s_2 h => ?_) (fun j_4 s_2 h => ?_)
  · have h := h.1 rfl
    refine k_astoreN hC (pc := 10) dX11_row_10 [(6, .null), (0, .ref (adr X.G a 0 0)), (1, .int x1), (2, .int x2), (3, .int x3), (4, .int x4), (5, .int x5)] (by decide) rfl ?_
    refine k_aloadN hC (pc := 12) dX11_row_12 0 rfl ?_
    refine k_ifnonnullN hC (pc := 14) dX11_row_14 ?_
    refine k_iconst hC (pc := 17) (v := (-1)) dX11_row_17 ic_m1 ?_
    exact k_iret hC (pc := 18) hQ hr dX11_row_18 h
  · have h := h.2 j_4 rfl
    obtain ⟨hj_4, h⟩ := h
    refine k_astore hC (pc := 10) dX11_row_10 [(6, .ref (adr X.G a 0 (42 + j_4))), (0, .ref (adr X.G a 0 0)), (1, .int x1), (2, .int x2), (3, .int x3), (4, .int x4), (5, .int x5)] (by decide) rfl ?_
    refine k_aload hC (pc := 12) dX11_row_12 0 rfl ?_
    refine k_ifnonnull hC (pc := 14) 19 dX11_row_14 (by decide) ?_
    refine k_iload_n hC (pc := 19) dX11_row_19 2 rfl ?_
    refine k_iconst hC (pc := 20) (v := 0) dX11_row_20 ic_0 ?_
    refine k_iconst hC (pc := 21) (v := 1) dX11_row_21 ic_1 ?_
    refine k_ci (rn_S hC (pc := 22) (As := [.int x1, .int 0, .int 1]) (rest := []) ca_X11_isWithin ml_RX11_80 sm_X11_isWithin (ct_X11_isWithin x1 0 1 h) (by rw [hR]; exact ⟨rfl, rfl, by decide, by decide⟩) rfl (Nat.le_of_ble_eq_true rfl) dX11_row_22 ⟨by rw [hR]; decide, by rw [hR]; decide⟩) (fun r_6 s_5 h => ?_)
    refine k_if_eq hC (pc := 25) 35 dX11_row_25 (by decide) (fun c_7 => ?_) (fun c_7 => ?_)
    · have h := h.1 c_7
      refine k_bipush hC (pc := 35) (v := (-2)) dX11_row_35 bp_m2 ?_
      exact k_iret hC (pc := 37) hQ hr dX11_row_37 h
    · have h := h.2 c_7
      refine k_iload_n hC (pc := 28) dX11_row_28 4 rfl ?_
      refine k_ci (rn_S hC (pc := 29) (As := [.int x3]) (rest := []) ca_X11_isLane ml_RX11_143 sm_X11_isLane (ct_X11_isLane x3 h) (by rw [hR]; exact ⟨rfl, rfl, by decide, by decide⟩) rfl (Nat.le_of_ble_eq_true rfl) dX11_row_29 ⟨by rw [hR]; decide, by rw [hR]; decide⟩) (fun r_9 s_8 h => ?_)
      refine k_if_ne hC (pc := 32) 38 dX11_row_32 (by decide) (fun c_10 => ?_) (fun c_10 => ?_)
      · have h := h.1 c_10
        refine k_aload_n hC (pc := 38) dX11_row_38 1 rfl ?_
        refine k_aload hC (pc := 39) dX11_row_39 0 rfl ?_
        refine k_iload_n hC (pc := 41) dX11_row_41 4 rfl ?_
        refine k_iload hC (pc := 42) dX11_row_42 5 rfl ?_
        refine k_iload hC (pc := 44) dX11_row_44 6 rfl ?_
        refine k_ci (rn_V hC (pc := 46) (As := [.int x3, .int x4, .int x5]) (rest := [.ref (adr X.G a 0 0)]) ca_X7_faultOf ml_RX11_146 im_X7_faultOf se_X7_faultOf (fx_in (sh_f hj_4)) (sh_o hj_4 _ _ _ _ _) rfl rfl (ct_X7_faultOf j_4 x3 x4 x5 h) (by rw [hR]; exact ⟨rfl, rfl, by decide, by decide⟩) rfl (Nat.le_of_ble_eq_true rfl) dX11_row_46 ⟨by rw [hR]; decide, by rw [hR]; decide⟩) (fun r_12 s_11 h => ?_)
        refine k_ci (rn_V hC (pc := 49) (As := [.int r_12]) (rest := []) ca_X11_noteFault ml_RX11_149 im_X11_noteFault se_X11_noteFault (fx_in f0_0) (ob0_0 _ _ _ _ _) rfl rfl (ct_X11_noteFault r_12 h) (by rw [hR]; exact ⟨rfl, rfl, by decide, by decide⟩) rfl (Nat.le_of_ble_eq_true rfl) dX11_row_49 ⟨by rw [hR]; decide, by rw [hR]; decide⟩) (fun r_14 s_13 h => ?_)
        refine k_istore hC (pc := 52) dX11_row_52 [(7, .int r_14), (6, .ref (adr X.G a 0 (42 + j_4))), (0, .ref (adr X.G a 0 0)), (1, .int x1), (2, .int x2), (3, .int x3), (4, .int x4), (5, .int x5)] (by decide) rfl ?_
        refine k_iload hC (pc := 54) dX11_row_54 0 rfl ?_
        refine k_if_eq hC (pc := 56) 62 dX11_row_56 (by decide) (fun c_15 => ?_) (fun c_15 => ?_)
        · have h := h.1 c_15
          refine k_iload_n hC (pc := 62) dX11_row_62 3 rfl ?_
          refine k_if_ne hC (pc := 63) 82 dX11_row_63 (by decide) (fun c_16 => ?_) (fun c_16 => ?_)
          · have h := h.1 c_16
            refine k_aload_n hC (pc := 82) dX11_row_82 2 rfl ?_
            refine gf_X11_10 hC (pc := 83)  fl_RX11_51 dX11_row_83 ?_
            refine k_aload hC (pc := 86) dX11_row_86 1 rfl ?_
            refine k_iload hC (pc := 88) dX11_row_88 6 rfl ?_
            refine k_iload hC (pc := 90) dX11_row_90 7 rfl ?_
            refine k_ci (rn_V hC (pc := 92) (As := [.ref (adr X.G a 0 (42 + j_4)), .int x4, .int x5]) (rest := []) ca_X8_takeTable ml_RX11_241 im_X8_takeTable se_X8_takeTable (fx_in f0_19) (ob0_19 _ _ _ _ _) rfl rfl (ct_X8_takeTable j_4 x4 x5 h) (by rw [hR]; exact ⟨rfl, rfl, by decide, by decide⟩) rfl (Nat.le_of_ble_eq_true rfl) dX11_row_92 ⟨by rw [hR]; decide, by rw [hR]; decide⟩) (fun r_18 s_17 h => ?_)
            refine k_sub [(5, .int x5)] [7] rfl ?_
            exact b_X11_row_95 hC hR hQ hr _ _ _ h
          · have h := h.2 c_16
            refine k_aload_n hC (pc := 66) dX11_row_66 2 rfl ?_
            refine gf_X11_9 hC (pc := 67)  fl_RX11_44 dX11_row_67 ?_
            refine k_aload hC (pc := 70) dX11_row_70 1 rfl ?_
            refine k_iload hC (pc := 72) dX11_row_72 6 rfl ?_
            refine k_iload hC (pc := 74) dX11_row_74 7 rfl ?_
            refine k_ci (rn_V hC (pc := 76) (As := [.ref (adr X.G a 0 (42 + j_4)), .int x4, .int x5]) (rest := []) ca_X10_takeWeather ml_RX11_237 im_X10_takeWeather se_X10_takeWeather (fx_in f0_14) (ob0_14 _ _ _ _ _) rfl rfl (ct_X10_takeWeather j_4 x4 x5 h) (by rw [hR]; exact ⟨rfl, rfl, by decide, by decide⟩) rfl (Nat.le_of_ble_eq_true rfl) dX11_row_76 ⟨by rw [hR]; decide, by rw [hR]; decide⟩) (fun r_21 s_20 h => ?_)
            refine k_goto hC (pc := 79) 95 dX11_row_79 (by decide) ?_
            refine k_sub [(5, .int x5)] [7] rfl ?_
            exact b_X11_row_95 hC hR hQ hr _ _ _ h
        · have h := h.2 c_15
          refine k_iload hC (pc := 59) dX11_row_59 0 rfl ?_
          exact k_iret hC (pc := 61) hQ hr dX11_row_61 h
      · have h := h.2 c_10
        refine k_bipush hC (pc := 35) (v := (-2)) dX11_row_35 bp_m2 ?_
        exact k_iret hC (pc := 37) hQ hr dX11_row_37 h
theorem ct_X11_row {l : Launch} {G : Gx} {a : Ax} {s : Sx} {N : Nat} {post : Int32 → Sx → Prop} (x1 : Int32) (x2 : Int32) (x3 : Int32) (x4 : Int32) (x5 : Int32) (h : w_X11_row N x1 x2 x3 x4 x5 s post) : Met l yX11_row (Cond.code yX11_row cX11_row 9 (some .int) :: gw) { frames := 4, cells := 0, slots := 0, locals := 90 } (va_Pc [.ref (adr G a 0 0), .int x1, .int x2, .int x3, .int x4, .int x5] (fun U => FU G a s U)) (Qi G a post) 0 0 (bs_ G) := met_of (plainFor_of_name (by decide)) (Nat.le_of_ble_eq_true rfl) rfl (fun X hC hl hR hQ hr hG hn => by subst hG; exact b_X11_row hC hR hQ hr hn s x1 x2 x3 x4 x5 h)
theorem ca_X11_row : Ca yX11_row cX11_row 9 (some .int) 5 := ⟨cd_X11_row, ii_RX11, by decide, by decide, by decide +kernel⟩
