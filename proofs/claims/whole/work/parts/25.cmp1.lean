def w_X6_daysIn (N : Nat) (p0 : Nat) (x1 : Int32) (x2 : Int32) (s : Sx) (post : Int32 → Sx → Prop) : Prop := p0 < s.2.2 0 ∧ w_J9_min_7cf53 N (s.1 1 p0 4) x2 s (fun r_3 s_2 => p0 < s_2.2.2 0 ∧ w_J9_max_7cf53 N (s_2.1 1 p0 3) x1 s_2 (fun r_6 s_5 => w_J9_max_7cf53 N 0 ((r_3 - r_6) + 1) s_5 (fun r_8 s_7 => post r_8 s_7)))
set_option maxHeartbeats 4000000 in
theorem b_X6_daysIn {X : Kx} {a : Ax} {N : Nat} {post : Int32 → Sx → Prop} (hC : Cx X cX6_daysIn 3 RX6) (hR : X.R = { frames := 1, cells := 0, slots := 0, locals := 21 }) (hQ : X.Q = MQ X.below (Qi X.G a post) X.av X.s 0 0 (bs_ X.G)) (hr : X.meth.sig.returnType = (some .int)) (hn : X.meth.name = "daysIn") (s : Sx) (p0 : Nat) (x1 : Int32) (x2 : Int32) (h : w_X6_daysIn N p0 x1 x2 s post) : wk X a s 3 0 [(0, .ref (adr X.G a 1 p0)), (1, .int x1), (2, .int x2)] [] 0 0 := by
  unfold w_X6_daysIn at h
  refine k_iconst hC (pc := 0) (v := 0) dX6_daysIn_0 ic_0 ?_
  refine k_aload_n hC (pc := 1) dX6_daysIn_1 0 rfl ?_
  obtain ⟨c_1, h⟩ := h
  refine gf_X6_4 hC (pc := 2) c_1 fl_RX6_22 dX6_daysIn_2 ?_
  refine k_iload_n hC (pc := 5) dX6_daysIn_5 2 rfl ?_
  refine k_ci (rn_S hC (pc := 6) (As := [.int (s.1 1 p0 4), .int x2]) (rest := [.int 0]) ca_J9_min_7cf53 ml_RX6_31 sm_J9_min_7cf53 (ct_J9_min_7cf53 (s.1 1 p0 4) x2 h) (by rw [hR]; exact ⟨rfl, rfl, by decide, by decide⟩) rfl (Nat.le_of_ble_eq_true rfl) dX6_daysIn_6 ⟨by rw [hR]; decide, by rw [hR]; decide⟩) (fun r_3 s_2 h => ?_)
  refine k_aload_n hC (pc := 9) dX6_daysIn_9 0 rfl ?_
  obtain ⟨c_4, h⟩ := h
  refine gf_X6_3 hC (pc := 10) c_4 fl_RX6_19 dX6_daysIn_10 ?_
  refine k_iload_n hC (pc := 13) dX6_daysIn_13 1 rfl ?_
  refine k_ci (rn_S hC (pc := 14) (As := [.int (s_2.1 1 p0 3), .int x1]) (rest := [.int r_3, .int 0]) ca_J9_max_7cf53 ml_RX6_37 sm_J9_max_7cf53 (ct_J9_max_7cf53 (s_2.1 1 p0 3) x1 h) (by rw [hR]; exact ⟨rfl, rfl, by decide, by decide⟩) rfl (Nat.le_of_ble_eq_true rfl) dX6_daysIn_14 ⟨by rw [hR]; decide, by rw [hR]; decide⟩) (fun r_6 s_5 h => ?_)
  refine k_isub hC (pc := 17) dX6_daysIn_17 ?_
  refine k_iconst hC (pc := 18) (v := 1) dX6_daysIn_18 ic_1 ?_
  refine k_iadd hC (pc := 19) dX6_daysIn_19 ?_
  refine k_ci (rn_S hC (pc := 20) (As := [.int 0, .int ((r_3 - r_6) + 1)]) (rest := []) ca_J9_max_7cf53 ml_RX6_37 sm_J9_max_7cf53 (ct_J9_max_7cf53 0 ((r_3 - r_6) + 1) h) (by rw [hR]; exact ⟨rfl, rfl, by decide, by decide⟩) rfl (Nat.le_of_ble_eq_true rfl) dX6_daysIn_20 ⟨by rw [hR]; decide, by rw [hR]; decide⟩) (fun r_8 s_7 h => ?_)
  exact k_iret hC (pc := 23) hQ hr dX6_daysIn_23 h
theorem ct_X6_daysIn {l : Launch} {G : Gx} {a : Ax} {s : Sx} {N : Nat} {post : Int32 → Sx → Prop} (p0 : Nat) (x1 : Int32) (x2 : Int32) (h : w_X6_daysIn N p0 x1 x2 s post) : Met l yX6_daysIn (Cond.code yX6_daysIn cX6_daysIn 3 (some .int) :: gw) { frames := 1, cells := 0, slots := 0, locals := 21 } (va_Pc [.ref (adr G a 1 p0), .int x1, .int x2] (fun U => FU G a s U)) (Qi G a post) 0 0 (bs_ G) := met_of (plainFor_of_name (by decide)) (Nat.le_of_ble_eq_true rfl) rfl (fun X hC hl hR hQ hr hG hn => by subst hG; exact b_X6_daysIn hC hR hQ hr hn s p0 x1 x2 h)
theorem ca_X6_daysIn : Ca yX6_daysIn cX6_daysIn 3 (some .int) 2 := ⟨cd_X6_daysIn, ii_RX6, by decide, by decide, by decide +kernel⟩
def w_X4_earnedOn_14 (N : Nat) (post : Int32 → Sx → Prop) : Nat → Sx → Int32 → Int32 → Int32 → Int32 → Int32 → Int32 → Prop
  | 0, _, _, _, _, _, _, _ => False
  | n + 1, s, x2, x3, x4, x5, x7, x8 => (x7 ≤ x8 → post x5 s) ∧ (¬ (x7 ≤ x8) → vp_in x8 30 ∧ (¬ x8.toNatClampNeg < s.2.2 1 → ∀ x_4 : Int32, x_4 = x8 + 1 → w_X4_earnedOn_14 N post n s x2 x3 x4 x5 x7 x_4) ∧ (x8.toNatClampNeg < s.2.2 1 → x8.toNatClampNeg < s.2.2 0 ∧ (¬ (s.1 1 x8.toNatClampNeg 1) = x2 → ∀ x_7 : Int32, x_7 = x8 + 1 → w_X4_earnedOn_14 N post n s x2 x3 x4 x5 x7 x_7) ∧ (¬ (¬ (s.1 1 x8.toNatClampNeg 1) = x2) → x8.toNatClampNeg < s.2.2 0 ∧ w_X6_daysIn N x8.toNatClampNeg x3 x4 s (fun r_9 s_8 => x8.toNatClampNeg < s_8.2.2 0 ∧ vp_in (s_8.1 1 x8.toNatClampNeg 0) 3 ∧ ∀ x_12 : Int32, x_12 = x5 + (r_9 * (s_8.1 0 10 (s_8.1 1 x8.toNatClampNeg 0).toNatClampNeg)) → ∀ x_13 : Int32, x_13 = x8 + 1 → w_X4_earnedOn_14 N post n s_8 x2 x3 x4 x_12 x7 x_13))))
def w_X4_earnedOn (N : Nat) (x2 : Int32) (x3 : Int32) (x4 : Int32) (s : Sx) (post : Int32 → Sx → Prop) : Prop := w_X4_earnedOn_14 N post N s x2 x3 x4 0 30 0
set_option maxHeartbeats 4000000 in
theorem b_X4_earnedOn_14 {X : Kx} {a : Ax} {N : Nat} {post : Int32 → Sx → Prop}  (hC : Cx X cX4_earnedOn 10 RX4) (hR : X.R = { frames := 2, cells := 0, slots := 0, locals := 43 }) (hQ : X.Q = MQ X.below (Qi X.G a post) X.av X.s 0 0 (bs_ X.G)) (hr : X.meth.sig.returnType = (some .int))   : ∀ (n : Nat) (s : Sx) (x2 : Int32) (x3 : Int32) (x4 : Int32) (x5 : Int32) (x7 : Int32) (x8 : Int32), w_X4_earnedOn_14 N post  n s x2 x3 x4 x5 x7 x8 → wk X a s 10 14 [(0, .ref (adr X.G a 0 9)), (2, .int x2), (3, .int x3), (4, .int x4), (5, .int x5), (6, .ref (adr X.G a 0 6)), (7, .int x7), (8, .int x8)] [] 0 0 := by
  intro n
  induction n with
  | zero => intro s x2 x3 x4 x5 x7 x8 h; exact h.elim
  | succ n ih =>
    intro s x2 x3 x4 x5 x7 x8 h
    unfold w_X4_earnedOn_14 at h
    refine k_iload hC (pc := 14) dX4_earnedOn_14 7 rfl ?_
    refine k_iload hC (pc := 16) dX4_earnedOn_16 6 rfl ?_
    refine k_icmp_ge hC (pc := 18) 72 dX4_earnedOn_18 (by decide) (fun c_1 => ?_) (fun c_1 => ?_)
    · have h := h.1 c_1
      refine k_iload hC (pc := 72) dX4_earnedOn_72 4 rfl ?_
      exact k_iret hC (pc := 74) hQ hr dX4_earnedOn_74 h
    · have h := h.2 c_1
      refine k_aload hC (pc := 21) dX4_earnedOn_21 5 rfl ?_
      refine k_iload hC (pc := 23) dX4_earnedOn_23 7 rfl ?_
      obtain ⟨c_2, h⟩ := h
      refine r_aldP hC (pc := 25) c_2 dX4_earnedOn_25 (fun c_3 => ?_) (fun c_3 => ?_)
      · have h := h.1 c_3
        refine k_astoreN hC (pc := 26) dX4_earnedOn_26 [(9, .null), (0, .ref (adr X.G a 0 9)), (2, .int x2), (3, .int x3), (4, .int x4), (5, .int x5), (6, .ref (adr X.G a 0 6)), (7, .int x7), (8, .int x8)] (by decide) rfl ?_
        refine k_aloadN hC (pc := 28) dX4_earnedOn_28 0 rfl ?_
        refine k_ifnullN hC (pc := 30) 66 dX4_earnedOn_30 (by decide) ?_
        obtain ⟨x_4, h_x_4⟩ : ∃ z : Int32, z = x8 + 1 := ⟨_, rfl⟩
        have h := h x_4 h_x_4
        refine k_iincw hC (pc := 66) dX4_earnedOn_66 8 rfl ic_1 h_x_4.symm [(8, .int x_4), (9, .null), (0, .ref (adr X.G a 0 9)), (2, .int x2), (3, .int x3), (4, .int x4), (5, .int x5), (6, .ref (adr X.G a 0 6)), (7, .int x7)] (by decide) rfl ?_
        refine k_goto hC (pc := 69) 14 dX4_earnedOn_69 (by decide) ?_
        refine k_sub [(0, .ref (adr X.G a 0 9)), (2, .int x2), (3, .int x3), (4, .int x4), (5, .int x5), (6, .ref (adr X.G a 0 6)), (7, .int x7), (8, .int x_4)] [2, 3, 4, 5, 6, 7, 8, 0] rfl ?_
        exact ih _ _ _ _ _ _ _ h
      · have h := h.2 c_3
        refine k_astore hC (pc := 26) dX4_earnedOn_26 [(9, .ref (adr X.G a 1 x8.toNatClampNeg)), (0, .ref (adr X.G a 0 9)), (2, .int x2), (3, .int x3), (4, .int x4), (5, .int x5), (6, .ref (adr X.G a 0 6)), (7, .int x7), (8, .int x8)] (by decide) rfl ?_
        refine k_aload hC (pc := 28) dX4_earnedOn_28 0 rfl ?_
        refine k_ifnull hC (pc := 30) dX4_earnedOn_30 ?_
        refine k_aload hC (pc := 33) dX4_earnedOn_33 0 rfl ?_
        obtain ⟨c_5, h⟩ := h
        refine gf_X6_1 hC (pc := 35) c_5 fl_RX4_38 dX4_earnedOn_35 ?_
        refine k_iload_n hC (pc := 38) dX4_earnedOn_38 2 rfl ?_
        refine k_icmp_ne hC (pc := 39) 66 dX4_earnedOn_39 (by decide) (fun c_6 => ?_) (fun c_6 => ?_)
        · have h := h.1 c_6
          obtain ⟨x_7, h_x_7⟩ : ∃ z : Int32, z = x8 + 1 := ⟨_, rfl⟩
          have h := h x_7 h_x_7
          refine k_iincw hC (pc := 66) dX4_earnedOn_66 8 rfl ic_1 h_x_7.symm [(8, .int x_7), (9, .ref (adr X.G a 1 x8.toNatClampNeg)), (0, .ref (adr X.G a 0 9)), (2, .int x2), (3, .int x3), (4, .int x4), (5, .int x5), (6, .ref (adr X.G a 0 6)), (7, .int x7)] (by decide) rfl ?_
          refine k_goto hC (pc := 69) 14 dX4_earnedOn_69 (by decide) ?_
          refine k_sub [(0, .ref (adr X.G a 0 9)), (2, .int x2), (3, .int x3), (4, .int x4), (5, .int x5), (6, .ref (adr X.G a 0 6)), (7, .int x7), (8, .int x_7)] [2, 3, 4, 5, 6, 7, 8, 0] rfl ?_
          exact ih _ _ _ _ _ _ _ h
        · have h := h.2 c_6
          refine k_iload hC (pc := 42) dX4_earnedOn_42 5 rfl ?_
          refine k_aload hC (pc := 44) dX4_earnedOn_44 0 rfl ?_
          refine k_iload_n hC (pc := 46) dX4_earnedOn_46 3 rfl ?_
          refine k_iload hC (pc := 47) dX4_earnedOn_47 4 rfl ?_
          refine k_ci (rn_V hC (pc := 49) (As := [.int x3, .int x4]) (rest := [.int x5]) ca_X6_daysIn ml_RX4_43 im_X6_daysIn se_X6_daysIn (px_in h.1) (ob1 _ _ _ _ _ _) rfl rfl (ct_X6_daysIn x8.toNatClampNeg x3 x4 h.2) (by rw [hR]; exact ⟨rfl, rfl, by decide, by decide⟩) rfl (Nat.le_of_ble_eq_true rfl) dX4_earnedOn_49 ⟨by rw [hR]; decide, by rw [hR]; decide⟩) (fun r_9 s_8 h => ?_)
          refine k_aload_n hC (pc := 52) dX4_earnedOn_52 1 rfl ?_
          refine gf_X4_0 hC (pc := 53)  fl_RX4_9 dX4_earnedOn_53 ?_
          refine k_aload hC (pc := 56) dX4_earnedOn_56 0 rfl ?_
          obtain ⟨c_10, h⟩ := h
          refine gf_X6_0 hC (pc := 58) c_10 fl_RX4_47 dX4_earnedOn_58 ?_
          obtain ⟨c_11, h⟩ := h
          refine r_iald hC (pc := 61) ra0_10 c_11 dX4_earnedOn_61 ?_
          refine k_imul hC (pc := 62) dX4_earnedOn_62 ?_
          refine k_iadd hC (pc := 63) dX4_earnedOn_63 ?_
          refine k_topi (fun x_12 h_x_12 => ?_)
          have h := h x_12 h_x_12
          refine k_istore hC (pc := 64) dX4_earnedOn_64 [(5, .int x_12), (9, .ref (adr X.G a 1 x8.toNatClampNeg)), (0, .ref (adr X.G a 0 9)), (2, .int x2), (3, .int x3), (4, .int x4), (6, .ref (adr X.G a 0 6)), (7, .int x7), (8, .int x8)] (by decide) rfl ?_
          obtain ⟨x_13, h_x_13⟩ : ∃ z : Int32, z = x8 + 1 := ⟨_, rfl⟩
          have h := h x_13 h_x_13
          refine k_iincw hC (pc := 66) dX4_earnedOn_66 8 rfl ic_1 h_x_13.symm [(8, .int x_13), (5, .int x_12), (9, .ref (adr X.G a 1 x8.toNatClampNeg)), (0, .ref (adr X.G a 0 9)), (2, .int x2), (3, .int x3), (4, .int x4), (6, .ref (adr X.G a 0 6)), (7, .int x7)] (by decide) rfl ?_
          refine k_goto hC (pc := 69) 14 dX4_earnedOn_69 (by decide) ?_
          refine k_sub [(0, .ref (adr X.G a 0 9)), (2, .int x2), (3, .int x3), (4, .int x4), (5, .int x_12), (6, .ref (adr X.G a 0 6)), (7, .int x7), (8, .int x_13)] [3, 4, 5, 6, 1, 7, 8, 0] rfl ?_
          exact ih _ _ _ _ _ _ _ h
set_option maxHeartbeats 4000000 in
theorem b_X4_earnedOn {X : Kx} {a : Ax} {N : Nat} {post : Int32 → Sx → Prop} (hC : Cx X cX4_earnedOn 10 RX4) (hR : X.R = { frames := 2, cells := 0, slots := 0, locals := 43 }) (hQ : X.Q = MQ X.below (Qi X.G a post) X.av X.s 0 0 (bs_ X.G)) (hr : X.meth.sig.returnType = (some .int)) (hn : X.meth.name = "earnedOn") (s : Sx) (x2 : Int32) (x3 : Int32) (x4 : Int32) (h : w_X4_earnedOn N x2 x3 x4 s post) : wk X a s 10 0 [(0, .ref (adr X.G a 0 9)), (1, .ref (adr X.G a 0 6)), (2, .int x2), (3, .int x3), (4, .int x4)] [] 0 0 := by
  unfold w_X4_earnedOn at h
  refine k_iconst hC (pc := 0) (v := 0) dX4_earnedOn_0 ic_0 ?_
  refine k_istore hC (pc := 1) dX4_earnedOn_1 [(5, .int 0), (0, .ref (adr X.G a 0 9)), (1, .ref (adr X.G a 0 6)), (2, .int x2), (3, .int x3), (4, .int x4)] (by decide) rfl ?_
  refine k_aload_n hC (pc := 3) dX4_earnedOn_3 2 rfl ?_
  refine k_astore hC (pc := 4) dX4_earnedOn_4 [(6, .ref (adr X.G a 0 6)), (5, .int 0), (0, .ref (adr X.G a 0 9)), (1, .ref (adr X.G a 0 6)), (2, .int x2), (3, .int x3), (4, .int x4)] (by decide) rfl ?_
  refine k_aload hC (pc := 6) dX4_earnedOn_6 0 rfl ?_
  refine r_lenP hC (pc := 8) dX4_earnedOn_8 ?_
  refine k_istore hC (pc := 9) dX4_earnedOn_9 [(7, .int 30), (6, .ref (adr X.G a 0 6)), (5, .int 0), (0, .ref (adr X.G a 0 9)), (1, .ref (adr X.G a 0 6)), (2, .int x2), (3, .int x3), (4, .int x4)] (by decide) rfl ?_
  refine k_iconst hC (pc := 11) (v := 0) dX4_earnedOn_11 ic_0 ?_
  refine k_istore hC (pc := 12) dX4_earnedOn_12 [(8, .int 0), (7, .int 30), (6, .ref (adr X.G a 0 6)), (5, .int 0), (0, .ref (adr X.G a 0 9)), (1, .ref (adr X.G a 0 6)), (2, .int x2), (3, .int x3), (4, .int x4)] (by decide) rfl ?_
  refine k_sub [(0, .ref (adr X.G a 0 9)), (2, .int x2), (3, .int x3), (4, .int x4), (5, .int 0), (6, .ref (adr X.G a 0 6)), (7, .int 30), (8, .int 0)] [4, 6, 7, 8, 3, 2, 1, 0] rfl ?_
  exact b_X4_earnedOn_14 hC hR hQ hr N _ _ _ _ _ _ _ h
theorem ct_X4_earnedOn {l : Launch} {G : Gx} {a : Ax} {s : Sx} {N : Nat} {post : Int32 → Sx → Prop} (x2 : Int32) (x3 : Int32) (x4 : Int32) (h : w_X4_earnedOn N x2 x3 x4 s post) : Met l yX4_earnedOn (Cond.code yX4_earnedOn cX4_earnedOn 10 (some .int) :: gw) { frames := 2, cells := 0, slots := 0, locals := 43 } (va_Pc [.ref (adr G a 0 9), .ref (adr G a 0 6), .int x2, .int x3, .int x4] (fun U => FU G a s U)) (Qi G a post) 0 0 (bs_ G) := met_of (plainFor_of_name (by decide)) (Nat.le_of_ble_eq_true rfl) rfl (fun X hC hl hR hQ hr hG hn => by subst hG; exact b_X4_earnedOn hC hR hQ hr hn s x2 x3 x4 h)
theorem ca_X4_earnedOn : Ca yX4_earnedOn cX4_earnedOn 10 (some .int) 4 := ⟨cd_X4_earnedOn, ii_RX4, by decide, by decide, by decide +kernel⟩
def w_X4_sentHome (N : Nat) (x1 : Int32) (s : Sx) (post : Int32 → Sx → Prop) : Prop := w_X11_quotient N (x1.toInt64 * ((s.1 0 9 1).toInt64)) ((s.1 0 9 2).toInt64) s (fun r_2 s_1 => post r_2.toInt32 s_1)
set_option maxHeartbeats 4000000 in
theorem b_X4_sentHome {X : Kx} {a : Ax} {N : Nat} {post : Int32 → Sx → Prop} (hC : Cx X cX4_sentHome 2 RX4) (hR : X.R = { frames := 1, cells := 0, slots := 0, locals := 23 }) (hQ : X.Q = MQ X.below (Qi X.G a post) X.av X.s 0 0 (bs_ X.G)) (hr : X.meth.sig.returnType = (some .int)) (hn : X.meth.name = "sentHome") (s : Sx) (x1 : Int32) (h : w_X4_sentHome N x1 s post) : wk X a s 2 0 [(0, .ref (adr X.G a 0 9)), (1, .int x1)] [] 0 0 := by
  unfold w_X4_sentHome at h
  refine k_iload_n hC (pc := 0) dX4_sentHome_0 1 rfl ?_
  refine k_i2l hC (pc := 1) dX4_sentHome_1 ?_
  refine k_aload_n hC (pc := 2) dX4_sentHome_2 0 rfl ?_
  refine gf_X4_1 hC (pc := 3)  fl_RX4_15 dX4_sentHome_3 ?_
  refine k_i2l hC (pc := 6) dX4_sentHome_6 ?_
  refine k_lmul hC (pc := 7) dX4_sentHome_7 ?_
  refine k_aload_n hC (pc := 8) dX4_sentHome_8 0 rfl ?_
  refine gf_X4_2 hC (pc := 9)  fl_RX4_19 dX4_sentHome_9 ?_
  refine k_i2l hC (pc := 12) dX4_sentHome_12 ?_
  refine k_cl (rn_SN hC (pc := 13) (As := [.long (x1.toInt64 * ((s.1 0 9 1).toInt64)), .long ((s.1 0 9 2).toInt64)]) (rest := []) ca_X11_quotient nl_RX4_50 sm_X11_quotient (ct_X11_quotient (x1.toInt64 * ((s.1 0 9 1).toInt64)) ((s.1 0 9 2).toInt64) h) (by rw [hR]; exact ⟨rfl, rfl, by decide, by decide⟩) rfl (Nat.le_of_ble_eq_true rfl) dX4_sentHome_13 ⟨by rw [hR]; decide, by rw [hR]; decide⟩) (fun r_2 s_1 h => ?_)
  refine k_l2i hC (pc := 16) dX4_sentHome_16 ?_
  exact k_iret hC (pc := 17) hQ hr dX4_sentHome_17 h
theorem ct_X4_sentHome {l : Launch} {G : Gx} {a : Ax} {s : Sx} {N : Nat} {post : Int32 → Sx → Prop} (x1 : Int32) (h : w_X4_sentHome N x1 s post) : Met l yX4_sentHome (Cond.code yX4_sentHome cX4_sentHome 2 (some .int) :: gw) { frames := 1, cells := 0, slots := 0, locals := 23 } (va_Pc [.ref (adr G a 0 9), .int x1] (fun U => FU G a s U)) (Qi G a post) 0 0 (bs_ G) := met_of (plainFor_of_name (by decide)) (Nat.le_of_ble_eq_true rfl) rfl (fun X hC hl hR hQ hr hG hn => by subst hG; exact b_X4_sentHome hC hR hQ hr hn s x1 h)
theorem ca_X4_sentHome : Ca yX4_sentHome cX4_sentHome 2 (some .int) 1 := ⟨cd_X4_sentHome, ii_RX4, by decide, by decide, by decide +kernel⟩
def w_X5_add (N : Nat) (x1 : Int32) (x2 : Int32) (x3 : Int32) (x4 : Int32) (s : Sx) (post : Int32 → Sx → Prop) : Prop := ((s.1 0 34 4) < 8 → vp_in (s.1 0 34 4) 8 ∧ ∀ s_3, s_3 = setI s 0 35 (s.1 0 34 4).toNatClampNeg x1 → vp_in (s_3.1 0 34 4) 8 ∧ ∀ s_5, s_5 = setI s_3 0 36 (s_3.1 0 34 4).toNatClampNeg x2 → vp_in (s_5.1 0 34 4) 8 ∧ ∀ s_7, s_7 = setI s_5 0 37 (s_5.1 0 34 4).toNatClampNeg x3 → vp_in (s_7.1 0 34 4) 8 ∧ ∀ s_9, s_9 = setI s_7 0 38 (s_7.1 0 34 4).toNatClampNeg (vp_nar .boolean x4) → ∀ s_10, s_10 = setI s_9 0 34 4 ((s_9.1 0 34 4) + 1) → post ((s_10.1 0 34 4) - 1) s_10) ∧ (¬ ((s.1 0 34 4) < 8) → post ((-4)) s)
set_option maxHeartbeats 4000000 in
theorem b_X5_add {X : Kx} {a : Ax} {N : Nat} {post : Int32 → Sx → Prop} (hC : Cx X cX5_add 5 RX5) (hR : X.R = { frames := 0, cells := 0, slots := 0, locals := 0 }) (hQ : X.Q = MQ X.below (Qi X.G a post) X.av X.s 0 0 (bs_ X.G)) (hr : X.meth.sig.returnType = (some .int)) (hn : X.meth.name = "add") (s : Sx) (x1 : Int32) (x2 : Int32) (x3 : Int32) (x4 : Int32) (h : w_X5_add N x1 x2 x3 x4 s post) : wk X a s 5 0 [(0, .ref (adr X.G a 0 34)), (1, .int x1), (2, .int x2), (3, .int x3), (4, .int x4)] [] 0 0 := by
  unfold w_X5_add at h
  refine k_aload_n hC (pc := 0) dX5_add_0 0 rfl ?_
  refine gf_X5_4 hC (pc := 1)  fl_RX5_33 dX5_add_1 ?_
  refine k_bipush hC (pc := 4) (v := 8) dX5_add_4 bp_8 ?_
  refine k_icmp_lt hC (pc := 6) 12 dX5_add_6 (by decide) (fun c_1 => ?_) (fun c_1 => ?_)
  · have h := h.1 c_1
    refine k_aload_n hC (pc := 12) dX5_add_12 0 rfl ?_
    refine gf_X5_0 hC (pc := 13)  fl_RX5_13 dX5_add_13 ?_
    refine k_aload_n hC (pc := 16) dX5_add_16 0 rfl ?_
    refine gf_X5_4 hC (pc := 17)  fl_RX5_33 dX5_add_17 ?_
    refine k_iload_n hC (pc := 20) dX5_add_20 1 rfl ?_
    obtain ⟨c_2, h⟩ := h
    refine r_iast hC (pc := 21) ra0_35 c_2 dX5_add_21 (fun s_3 h_s_3 => ?_)
    have h := h s_3 h_s_3
    refine k_aload_n hC (pc := 22) dX5_add_22 0 rfl ?_
    refine gf_X5_1 hC (pc := 23)  fl_RX5_17 dX5_add_23 ?_
    refine k_aload_n hC (pc := 26) dX5_add_26 0 rfl ?_
    refine gf_X5_4 hC (pc := 27)  fl_RX5_33 dX5_add_27 ?_
    refine k_iload_n hC (pc := 30) dX5_add_30 2 rfl ?_
    obtain ⟨c_4, h⟩ := h
    refine r_iast hC (pc := 31) ra0_36 c_4 dX5_add_31 (fun s_5 h_s_5 => ?_)
    have h := h s_5 h_s_5
    refine k_aload_n hC (pc := 32) dX5_add_32 0 rfl ?_
    refine gf_X5_2 hC (pc := 33)  fl_RX5_20 dX5_add_33 ?_
    refine k_aload_n hC (pc := 36) dX5_add_36 0 rfl ?_
    refine gf_X5_4 hC (pc := 37)  fl_RX5_33 dX5_add_37 ?_
    refine k_iload_n hC (pc := 40) dX5_add_40 3 rfl ?_
    obtain ⟨c_6, h⟩ := h
    refine r_iast hC (pc := 41) ra0_37 c_6 dX5_add_41 (fun s_7 h_s_7 => ?_)
    have h := h s_7 h_s_7
    refine k_aload_n hC (pc := 42) dX5_add_42 0 rfl ?_
    refine gf_X5_3 hC (pc := 43)  fl_RX5_23 dX5_add_43 ?_
    refine k_aload_n hC (pc := 46) dX5_add_46 0 rfl ?_
    refine gf_X5_4 hC (pc := 47)  fl_RX5_33 dX5_add_47 ?_
    refine k_iload hC (pc := 50) dX5_add_50 4 rfl ?_
    obtain ⟨c_8, h⟩ := h
    refine r_zast hC (pc := 52) ra0_38 c_8 dX5_add_52 (fun s_9 h_s_9 => ?_)
    have h := h s_9 h_s_9
    refine k_aload_n hC (pc := 53) dX5_add_53 0 rfl ?_
    refine k_dup hC (pc := 54) dX5_add_54 rfl ?_
    refine gf_X5_4 hC (pc := 55)  fl_RX5_33 dX5_add_55 ?_
    refine k_iconst hC (pc := 58) (v := 1) dX5_add_58 ic_1 ?_
    refine k_iadd hC (pc := 59) dX5_add_59 ?_
    refine pf_X5_4 hC (pc := 60)  fl_RX5_33 dX5_add_60 (fun s_10 h_s_10 => ?_)
    have h := h s_10 h_s_10
    refine k_aload_n hC (pc := 63) dX5_add_63 0 rfl ?_
    refine gf_X5_4 hC (pc := 64)  fl_RX5_33 dX5_add_64 ?_
    refine k_iconst hC (pc := 67) (v := 1) dX5_add_67 ic_1 ?_
    refine k_isub hC (pc := 68) dX5_add_68 ?_
    exact k_iret hC (pc := 69) hQ hr dX5_add_69 h
  · have h := h.2 c_1
    refine k_bipush hC (pc := 9) (v := (-4)) dX5_add_9 bp_m4 ?_
    exact k_iret hC (pc := 11) hQ hr dX5_add_11 h
theorem ct_X5_add {l : Launch} {G : Gx} {a : Ax} {s : Sx} {N : Nat} {post : Int32 → Sx → Prop} (x1 : Int32) (x2 : Int32) (x3 : Int32) (x4 : Int32) (h : w_X5_add N x1 x2 x3 x4 s post) : Met l yX5_add (Cond.code yX5_add cX5_add 5 (some .int) :: gw) { frames := 0, cells := 0, slots := 0, locals := 0 } (va_Pc [.ref (adr G a 0 34), .int x1, .int x2, .int x3, .int x4] (fun U => FU G a s U)) (Qi G a post) 0 0 (bs_ G) := met_of (plainFor_of_name (by decide)) (Nat.le_of_ble_eq_true rfl) rfl (fun X hC hl hR hQ hr hG hn => by subst hG; exact b_X5_add hC hR hQ hr hn s x1 x2 x3 x4 h)
theorem ca_X5_add : Ca yX5_add cX5_add 5 (some .int) 4 := ⟨cd_X5_add, ii_RX5, by decide, by decide, by decide +kernel⟩
def w_X5_isFree (N : Nat) (x1 : Int32) (x2 : Int32) (s : Sx) (post : Int32 → Sx → Prop) : Prop := vp_in x1 8 ∧ ((s.1 0 38 x1.toNatClampNeg) = 0 → post 0 s) ∧ (¬ ((s.1 0 38 x1.toNatClampNeg) = 0) → (¬ ((x2 >>> (x1 &&& 31)) &&& 1) = 0 → post 0 s) ∧ (¬ (¬ ((x2 >>> (x1 &&& 31)) &&& 1) = 0) → post 1 s))
set_option maxHeartbeats 4000000 in
theorem b_X5_isFree {X : Kx} {a : Ax} {N : Nat} {post : Int32 → Sx → Prop} (hC : Cx X cX5_isFree 3 RX5) (hR : X.R = { frames := 0, cells := 0, slots := 0, locals := 0 }) (hQ : X.Q = MQ X.below (Qi X.G a post) X.av X.s 0 0 (bs_ X.G)) (hr : X.meth.sig.returnType = (some .boolean)) (hn : X.meth.name = "isFree") (s : Sx) (x1 : Int32) (x2 : Int32) (h : w_X5_isFree N x1 x2 s post) : wk X a s 3 0 [(0, .ref (adr X.G a 0 34)), (1, .int x1), (2, .int x2)] [] 0 0 := by
  unfold w_X5_isFree at h
  refine k_aload_n hC (pc := 0) dX5_isFree_0 0 rfl ?_
  refine gf_X5_3 hC (pc := 1)  fl_RX5_23 dX5_isFree_1 ?_
  refine k_iload_n hC (pc := 4) dX5_isFree_4 1 rfl ?_
  obtain ⟨c_1, h⟩ := h
  refine r_zald hC (pc := 5) ra0_38 c_1 dX5_isFree_5 ?_
  refine k_if_eq hC (pc := 6) 21 dX5_isFree_6 (by decide) (fun c_2 => ?_) (fun c_2 => ?_)
  · have h := h.1 c_2
    refine k_iconst hC (pc := 21) (v := 0) dX5_isFree_21 ic_0 ?_
    exact k_zret hC (pc := 22) hQ hr dX5_isFree_22 (Or.inl rfl) h
  · have h := h.2 c_2
    refine k_iload_n hC (pc := 9) dX5_isFree_9 2 rfl ?_
    refine k_iload_n hC (pc := 10) dX5_isFree_10 1 rfl ?_
    refine k_ishr hC (pc := 11) dX5_isFree_11 ?_
    refine k_iconst hC (pc := 12) (v := 1) dX5_isFree_12 ic_1 ?_
    refine k_iand hC (pc := 13) dX5_isFree_13 ?_
    refine k_if_ne hC (pc := 14) 21 dX5_isFree_14 (by decide) (fun c_3 => ?_) (fun c_3 => ?_)
    · have h := h.1 c_3
      refine k_iconst hC (pc := 21) (v := 0) dX5_isFree_21 ic_0 ?_
      exact k_zret hC (pc := 22) hQ hr dX5_isFree_22 (Or.inl rfl) h
    · have h := h.2 c_3
      refine k_iconst hC (pc := 17) (v := 1) dX5_isFree_17 ic_1 ?_
      refine k_goto hC (pc := 18) 22 dX5_isFree_18 (by decide) ?_
      exact k_zret hC (pc := 22) hQ hr dX5_isFree_22 (Or.inr rfl) h
theorem ct_X5_isFree {l : Launch} {G : Gx} {a : Ax} {s : Sx} {N : Nat} {post : Int32 → Sx → Prop} (x1 : Int32) (x2 : Int32) (h : w_X5_isFree N x1 x2 s post) : Met l yX5_isFree (Cond.code yX5_isFree cX5_isFree 3 (some .boolean) :: gw) { frames := 0, cells := 0, slots := 0, locals := 0 } (va_Pc [.ref (adr G a 0 34), .int x1, .int x2] (fun U => FU G a s U)) (Qi G a post) 0 0 (bs_ G) := met_of (plainFor_of_name (by decide)) (Nat.le_of_ble_eq_true rfl) rfl (fun X hC hl hR hQ hr hG hn => by subst hG; exact b_X5_isFree hC hR hQ hr hn s x1 x2 h)
theorem ca_X5_isFree : Ca yX5_isFree cX5_isFree 3 (some .boolean) 2 := ⟨cd_X5_isFree, ii_RX5, by decide, by decide, by decide +kernel⟩
def w_X5_gainOf (N : Nat) (x2 : Int32) (x3 : Int32) (s : Sx) (post : Int32 → Sx → Prop) : Prop := vp_in x3 8 ∧ vp_in x3 8 ∧ vp_in x3 8 ∧ w_X0_far N x2 (s.1 0 35 x3.toNatClampNeg) (s.1 0 36 x3.toNatClampNeg) s (fun r_5 s_4 => post ((s.1 0 37 x3.toNatClampNeg) - r_5) s_4)
set_option maxHeartbeats 4000000 in
theorem b_X5_gainOf {X : Kx} {a : Ax} {N : Nat} {post : Int32 → Sx → Prop} (hC : Cx X cX5_gainOf 4 RX5) (hR : X.R = { frames := 2, cells := 0, slots := 0, locals := 43 }) (hQ : X.Q = MQ X.below (Qi X.G a post) X.av X.s 0 0 (bs_ X.G)) (hr : X.meth.sig.returnType = (some .int)) (hn : X.meth.name = "gainOf") (s : Sx) (x2 : Int32) (x3 : Int32) (h : w_X5_gainOf N x2 x3 s post) : wk X a s 4 0 [(0, .ref (adr X.G a 0 34)), (1, .ref (adr X.G a 0 1)), (2, .int x2), (3, .int x3)] [] 0 0 := by
  unfold w_X5_gainOf at h
  refine k_aload_n hC (pc := 0) dX5_gainOf_0 0 rfl ?_
  refine gf_X5_2 hC (pc := 1)  fl_RX5_20 dX5_gainOf_1 ?_
  refine k_iload_n hC (pc := 4) dX5_gainOf_4 3 rfl ?_
  obtain ⟨c_1, h⟩ := h
  refine r_iald hC (pc := 5) ra0_37 c_1 dX5_gainOf_5 ?_
  refine k_aload_n hC (pc := 6) dX5_gainOf_6 1 rfl ?_
  refine k_iload_n hC (pc := 7) dX5_gainOf_7 2 rfl ?_
  refine k_aload_n hC (pc := 8) dX5_gainOf_8 0 rfl ?_
  refine gf_X5_0 hC (pc := 9)  fl_RX5_13 dX5_gainOf_9 ?_
  refine k_iload_n hC (pc := 12) dX5_gainOf_12 3 rfl ?_
  obtain ⟨c_2, h⟩ := h
  refine r_iald hC (pc := 13) ra0_35 c_2 dX5_gainOf_13 ?_
  refine k_aload_n hC (pc := 14) dX5_gainOf_14 0 rfl ?_
  refine gf_X5_1 hC (pc := 15)  fl_RX5_17 dX5_gainOf_15 ?_
  refine k_iload_n hC (pc := 18) dX5_gainOf_18 3 rfl ?_
  obtain ⟨c_3, h⟩ := h
  refine r_iald hC (pc := 19) ra0_36 c_3 dX5_gainOf_19 ?_
  refine k_ci (rn_V hC (pc := 20) (As := [.int x2, .int (s.1 0 35 x3.toNatClampNeg), .int (s.1 0 36 x3.toNatClampNeg)]) (rest := [.int (s.1 0 37 x3.toNatClampNeg)]) ca_X0_far ml_RX5_70 im_X0_far se_X0_far (fx_in f0_1) (ob0_1 _ _ _ _ _) rfl rfl (ct_X0_far x2 (s.1 0 35 x3.toNatClampNeg) (s.1 0 36 x3.toNatClampNeg) h) (by rw [hR]; exact ⟨rfl, rfl, by decide, by decide⟩) rfl (Nat.le_of_ble_eq_true rfl) dX5_gainOf_20 ⟨by rw [hR]; decide, by rw [hR]; decide⟩) (fun r_5 s_4 h => ?_)
  refine k_isub hC (pc := 23) dX5_gainOf_23 ?_
  exact k_iret hC (pc := 24) hQ hr dX5_gainOf_24 h
theorem ct_X5_gainOf {l : Launch} {G : Gx} {a : Ax} {s : Sx} {N : Nat} {post : Int32 → Sx → Prop} (x2 : Int32) (x3 : Int32) (h : w_X5_gainOf N x2 x3 s post) : Met l yX5_gainOf (Cond.code yX5_gainOf cX5_gainOf 4 (some .int) :: gw) { frames := 2, cells := 0, slots := 0, locals := 43 } (va_Pc [.ref (adr G a 0 34), .ref (adr G a 0 1), .int x2, .int x3] (fun U => FU G a s U)) (Qi G a post) 0 0 (bs_ G) := met_of (plainFor_of_name (by decide)) (Nat.le_of_ble_eq_true rfl) rfl (fun X hC hl hR hQ hr hG hn => by subst hG; exact b_X5_gainOf hC hR hQ hr hn s x2 x3 h)
theorem ca_X5_gainOf : Ca yX5_gainOf cX5_gainOf 4 (some .int) 3 := ⟨cd_X5_gainOf, ii_RX5, by decide, by decide, by decide +kernel⟩
def w_X5_gainFrom (N : Nat) (x2 : Int32) (x3 : Int32) (x4 : Int32) (s : Sx) (post : Int32 → Sx → Prop) : Prop := w_X5_isFree N x3 x4 s (fun r_2 s_1 => (r_2 = 0 → post ((-2147483648)) s_1) ∧ (¬ (r_2 = 0) → vp_in (x4 ||| (1 <<< (x3 &&& 31))) 256 ∧ (¬ (s_1.1 0 39 (x4 ||| (1 <<< (x3 &&& 31))).toNatClampNeg) = ((-2147483648)) → w_X5_gainOf N x2 x3 s_1 (fun r_7 s_6 => vp_in (x4 ||| (1 <<< (x3 &&& 31))) 256 ∧ post (r_7 + (s_6.1 0 39 (x4 ||| (1 <<< (x3 &&& 31))).toNatClampNeg)) s_6)) ∧ (¬ (¬ (s_1.1 0 39 (x4 ||| (1 <<< (x3 &&& 31))).toNatClampNeg) = ((-2147483648))) → post ((-2147483648)) s_1)))
set_option maxHeartbeats 4000000 in
theorem b_X5_gainFrom {X : Kx} {a : Ax} {N : Nat} {post : Int32 → Sx → Prop} (hC : Cx X cX5_gainFrom 5 RX5) (hR : X.R = { frames := 3, cells := 0, slots := 0, locals := 66 }) (hQ : X.Q = MQ X.below (Qi X.G a post) X.av X.s 0 0 (bs_ X.G)) (hr : X.meth.sig.returnType = (some .int)) (hn : X.meth.name = "gainFrom") (s : Sx) (x2 : Int32) (x3 : Int32) (x4 : Int32) (h : w_X5_gainFrom N x2 x3 x4 s post) : wk X a s 5 0 [(0, .ref (adr X.G a 0 34)), (1, .ref (adr X.G a 0 1)), (2, .int x2), (3, .int x3), (4, .int x4)] [] 0 0 := by
  unfold w_X5_gainFrom at h
  refine k_aload_n hC (pc := 0) dX5_gainFrom_0 0 rfl ?_
  refine k_iload_n hC (pc := 1) dX5_gainFrom_1 3 rfl ?_
  refine k_iload hC (pc := 2) dX5_gainFrom_2 4 rfl ?_
  refine k_ci (rn_V hC (pc := 4) (As := [.int x3, .int x4]) (rest := []) ca_X5_isFree ml_RX5_61 im_X5_isFree se_X5_isFree (fx_in f0_34) (ob0_34 _ _ _ _ _) rfl rfl (ct_X5_isFree x3 x4 h) (by rw [hR]; exact ⟨rfl, rfl, by decide, by decide⟩) rfl (Nat.le_of_ble_eq_true rfl) dX5_gainFrom_4 ⟨by rw [hR]; decide, by rw [hR]; decide⟩) (fun r_2 s_1 h => ?_)
  refine k_if_eq hC (pc := 7) 26 dX5_gainFrom_7 (by decide) (fun c_3 => ?_) (fun c_3 => ?_)
  · have h := h.1 c_3
    refine k_ldc hC (pc := 26) dX5_gainFrom_26 cn_RX5_41 ?_
    exact k_iret hC (pc := 28) hQ hr dX5_gainFrom_28 h
  · have h := h.2 c_3
    refine k_aload_n hC (pc := 10) dX5_gainFrom_10 0 rfl ?_
    refine gf_X5_5 hC (pc := 11)  fl_RX5_27 dX5_gainFrom_11 ?_
    refine k_iload hC (pc := 14) dX5_gainFrom_14 4 rfl ?_
    refine k_iconst hC (pc := 16) (v := 1) dX5_gainFrom_16 ic_1 ?_
    refine k_iload_n hC (pc := 17) dX5_gainFrom_17 3 rfl ?_
    refine k_ishl hC (pc := 18) dX5_gainFrom_18 ?_
    refine k_ior hC (pc := 19) dX5_gainFrom_19 ?_
    obtain ⟨c_4, h⟩ := h
    refine r_iald hC (pc := 20) ra0_39 c_4 dX5_gainFrom_20 ?_
    refine k_ldc hC (pc := 21) dX5_gainFrom_21 cn_RX5_41 ?_
    refine k_icmp_ne hC (pc := 23) 29 dX5_gainFrom_23 (by decide) (fun c_5 => ?_) (fun c_5 => ?_)
    · have h := h.1 c_5
      refine k_aload_n hC (pc := 29) dX5_gainFrom_29 0 rfl ?_
      refine k_aload_n hC (pc := 30) dX5_gainFrom_30 1 rfl ?_
      refine k_iload_n hC (pc := 31) dX5_gainFrom_31 2 rfl ?_
      refine k_iload_n hC (pc := 32) dX5_gainFrom_32 3 rfl ?_
      refine k_ci (rn_V hC (pc := 33) (As := [.ref (adr X.G a 0 1), .int x2, .int x3]) (rest := []) ca_X5_gainOf ml_RX5_67 im_X5_gainOf se_X5_gainOf (fx_in f0_34) (ob0_34 _ _ _ _ _) rfl rfl (ct_X5_gainOf x2 x3 h) (by rw [hR]; exact ⟨rfl, rfl, by decide, by decide⟩) rfl (Nat.le_of_ble_eq_true rfl) dX5_gainFrom_33 ⟨by rw [hR]; decide, by rw [hR]; decide⟩) (fun r_7 s_6 h => ?_)
      refine k_aload_n hC (pc := 36) dX5_gainFrom_36 0 rfl ?_
      refine gf_X5_5 hC (pc := 37)  fl_RX5_27 dX5_gainFrom_37 ?_
      refine k_iload hC (pc := 40) dX5_gainFrom_40 4 rfl ?_
      refine k_iconst hC (pc := 42) (v := 1) dX5_gainFrom_42 ic_1 ?_
      refine k_iload_n hC (pc := 43) dX5_gainFrom_43 3 rfl ?_
      refine k_ishl hC (pc := 44) dX5_gainFrom_44 ?_
      refine k_ior hC (pc := 45) dX5_gainFrom_45 ?_
      obtain ⟨c_8, h⟩ := h
      refine r_iald hC (pc := 46) ra0_39 c_8 dX5_gainFrom_46 ?_
      refine k_iadd hC (pc := 47) dX5_gainFrom_47 ?_
      exact k_iret hC (pc := 48) hQ hr dX5_gainFrom_48 h
    · have h := h.2 c_5
      refine k_ldc hC (pc := 26) dX5_gainFrom_26 cn_RX5_41 ?_
      exact k_iret hC (pc := 28) hQ hr dX5_gainFrom_28 h
theorem ct_X5_gainFrom {l : Launch} {G : Gx} {a : Ax} {s : Sx} {N : Nat} {post : Int32 → Sx → Prop} (x2 : Int32) (x3 : Int32) (x4 : Int32) (h : w_X5_gainFrom N x2 x3 x4 s post) : Met l yX5_gainFrom (Cond.code yX5_gainFrom cX5_gainFrom 5 (some .int) :: gw) { frames := 3, cells := 0, slots := 0, locals := 66 } (va_Pc [.ref (adr G a 0 34), .ref (adr G a 0 1), .int x2, .int x3, .int x4] (fun U => FU G a s U)) (Qi G a post) 0 0 (bs_ G) := met_of (plainFor_of_name (by decide)) (Nat.le_of_ble_eq_true rfl) rfl (fun X hC hl hR hQ hr hG hn => by subst hG; exact b_X5_gainFrom hC hR hQ hr hn s x2 x3 x4 h)
theorem ca_X5_gainFrom : Ca yX5_gainFrom cX5_gainFrom 5 (some .int) 4 := ⟨cd_X5_gainFrom, ii_RX5, by decide, by decide, by decide +kernel⟩
def w_X5_mostBehind_22 (N : Nat) (post : Int32 → Sx → Prop) : Nat → Sx → Int32 → Int32 → Int32 → Int32 → Prop
  | 0, _, _, _, _, _ => False
  | n + 1, s, x2, x3, x4, x5 => ((s.1 0 34 4) ≤ x5 → post x4 s) ∧ (¬ ((s.1 0 34 4) ≤ x5) → w_X5_gainFrom N x3 x5 x2 s (fun r_6 s_5 => w_J9_max_7cf53 N x4 r_6 s_5 (fun r_8 s_7 => ∀ x_9 : Int32, x_9 = x5 + 1 → w_X5_mostBehind_22 N post n s_7 x2 x3 r_8 x_9)))
def w_X5_mostBehind (N : Nat) (x2 : Int32) (s : Sx) (post : Int32 → Sx → Prop) : Prop := w_J6_bitCount_0f7a4 N x2 s (fun r_2 s_1 => (r_2 < (s_1.1 0 1 4) → w_X5_mostBehind_22 N post N s_1 x2 r_2 ((-2147483648)) 0) ∧ (¬ (r_2 < (s_1.1 0 1 4)) → post 0 s_1))
set_option maxHeartbeats 4000000 in
theorem b_X5_mostBehind_22 {X : Kx} {a : Ax} {N : Nat} {post : Int32 → Sx → Prop}  (hC : Cx X cX5_mostBehind 6 RX5) (hR : X.R = { frames := 4, cells := 0, slots := 0, locals := 90 }) (hQ : X.Q = MQ X.below (Qi X.G a post) X.av X.s 0 0 (bs_ X.G)) (hr : X.meth.sig.returnType = (some .int))   : ∀ (n : Nat) (s : Sx) (x2 : Int32) (x3 : Int32) (x4 : Int32) (x5 : Int32), w_X5_mostBehind_22 N post  n s x2 x3 x4 x5 → wk X a s 6 22 [(0, .ref (adr X.G a 0 34)), (1, .ref (adr X.G a 0 1)), (2, .int x2), (3, .int x3), (4, .int x4), (5, .int x5)] [] 0 0 := by
  intro n
  induction n with
  | zero => intro s x2 x3 x4 x5 h; exact h.elim
  | succ n ih =>
    intro s x2 x3 x4 x5 h
    unfold w_X5_mostBehind_22 at h
    refine k_iload hC (pc := 22) dX5_mostBehind_22 5 rfl ?_
    refine k_aload_n hC (pc := 24) dX5_mostBehind_24 0 rfl ?_
    refine gf_X5_4 hC (pc := 25)  fl_RX5_33 dX5_mostBehind_25 ?_
    refine k_icmp_ge hC (pc := 28) 53 dX5_mostBehind_28 (by decide) (fun c_4 => ?_) (fun c_4 => ?_)
    · have h := h.1 c_4
      refine k_iload hC (pc := 53) dX5_mostBehind_53 4 rfl ?_
      exact k_iret hC (pc := 55) hQ hr dX5_mostBehind_55 h
    · have h := h.2 c_4
      refine k_iload hC (pc := 31) dX5_mostBehind_31 4 rfl ?_
      refine k_aload_n hC (pc := 33) dX5_mostBehind_33 0 rfl ?_
      refine k_aload_n hC (pc := 34) dX5_mostBehind_34 1 rfl ?_
      refine k_iload_n hC (pc := 35) dX5_mostBehind_35 3 rfl ?_
      refine k_iload hC (pc := 36) dX5_mostBehind_36 5 rfl ?_
      refine k_iload_n hC (pc := 38) dX5_mostBehind_38 2 rfl ?_
      refine k_ci (rn_V hC (pc := 39) (As := [.ref (adr X.G a 0 1), .int x3, .int x5, .int x2]) (rest := [.int x4]) ca_X5_gainFrom ml_RX5_77 im_X5_gainFrom se_X5_gainFrom (fx_in f0_34) (ob0_34 _ _ _ _ _) rfl rfl (ct_X5_gainFrom x3 x5 x2 h) (by rw [hR]; exact ⟨rfl, rfl, by decide, by decide⟩) rfl (Nat.le_of_ble_eq_true rfl) dX5_mostBehind_39 ⟨by rw [hR]; decide, by rw [hR]; decide⟩) (fun r_6 s_5 h => ?_)
      refine k_ci (rn_S hC (pc := 42) (As := [.int x4, .int r_6]) (rest := []) ca_J9_max_7cf53 ml_RX5_81 sm_J9_max_7cf53 (ct_J9_max_7cf53 x4 r_6 h) (by rw [hR]; exact ⟨rfl, rfl, by decide, by decide⟩) rfl (Nat.le_of_ble_eq_true rfl) dX5_mostBehind_42 ⟨by rw [hR]; decide, by rw [hR]; decide⟩) (fun r_8 s_7 h => ?_)
      refine k_istore hC (pc := 45) dX5_mostBehind_45 [(4, .int r_8), (0, .ref (adr X.G a 0 34)), (1, .ref (adr X.G a 0 1)), (2, .int x2), (3, .int x3), (5, .int x5)] (by decide) rfl ?_
      obtain ⟨x_9, h_x_9⟩ : ∃ z : Int32, z = x5 + 1 := ⟨_, rfl⟩
      have h := h x_9 h_x_9
      refine k_iincw hC (pc := 47) dX5_mostBehind_47 5 rfl ic_1 h_x_9.symm [(5, .int x_9), (4, .int r_8), (0, .ref (adr X.G a 0 34)), (1, .ref (adr X.G a 0 1)), (2, .int x2), (3, .int x3)] (by decide) rfl ?_
      refine k_goto hC (pc := 50) 22 dX5_mostBehind_50 (by decide) ?_
      refine k_sub [(0, .ref (adr X.G a 0 34)), (1, .ref (adr X.G a 0 1)), (2, .int x2), (3, .int x3), (4, .int r_8), (5, .int x_9)] [2, 3, 4, 5, 1, 0] rfl ?_
      exact ih _ _ _ _ _ h
set_option maxHeartbeats 4000000 in
theorem b_X5_mostBehind {X : Kx} {a : Ax} {N : Nat} {post : Int32 → Sx → Prop} (hC : Cx X cX5_mostBehind 6 RX5) (hR : X.R = { frames := 4, cells := 0, slots := 0, locals := 90 }) (hQ : X.Q = MQ X.below (Qi X.G a post) X.av X.s 0 0 (bs_ X.G)) (hr : X.meth.sig.returnType = (some .int)) (hn : X.meth.name = "mostBehind") (s : Sx) (x2 : Int32) (h : w_X5_mostBehind N x2 s post) : wk X a s 6 0 [(0, .ref (adr X.G a 0 34)), (1, .ref (adr X.G a 0 1)), (2, .int x2)] [] 0 0 := by
  unfold w_X5_mostBehind at h
  refine k_iload_n hC (pc := 0) dX5_mostBehind_0 2 rfl ?_
  refine k_ci (rn_S hC (pc := 1) (As := [.int x2]) (rest := []) ca_J6_bitCount_0f7a4 ml_RX5_74 sm_J6_bitCount_0f7a4 (ct_J6_bitCount_0f7a4 x2 h) (by rw [hR]; exact ⟨rfl, rfl, by decide, by decide⟩) rfl (Nat.le_of_ble_eq_true rfl) dX5_mostBehind_1 ⟨by rw [hR]; decide, by rw [hR]; decide⟩) (fun r_2 s_1 h => ?_)
  refine k_istore_n hC (pc := 4) dX5_mostBehind_4 [(3, .int r_2), (0, .ref (adr X.G a 0 34)), (1, .ref (adr X.G a 0 1)), (2, .int x2)] (by decide) rfl ?_
  refine k_iload_n hC (pc := 5) dX5_mostBehind_5 0 rfl ?_
  refine k_aload_n hC (pc := 6) dX5_mostBehind_6 2 rfl ?_
  refine gf_X0_4 hC (pc := 7)  fl_RX5_42 dX5_mostBehind_7 ?_
  refine k_icmp_lt hC (pc := 10) 15 dX5_mostBehind_10 (by decide) (fun c_3 => ?_) (fun c_3 => ?_)
  · have h := h.1 c_3
    refine k_ldc hC (pc := 15) dX5_mostBehind_15 cn_RX5_41 ?_
    refine k_istore hC (pc := 17) dX5_mostBehind_17 [(4, .int ((-2147483648))), (3, .int r_2), (0, .ref (adr X.G a 0 34)), (1, .ref (adr X.G a 0 1)), (2, .int x2)] (by decide) rfl ?_
    refine k_iconst hC (pc := 19) (v := 0) dX5_mostBehind_19 ic_0 ?_
    refine k_istore hC (pc := 20) dX5_mostBehind_20 [(5, .int 0), (4, .int ((-2147483648))), (3, .int r_2), (0, .ref (adr X.G a 0 34)), (1, .ref (adr X.G a 0 1)), (2, .int x2)] (by decide) rfl ?_
    refine k_sub [(0, .ref (adr X.G a 0 34)), (1, .ref (adr X.G a 0 1)), (2, .int x2), (3, .int r_2), (4, .int ((-2147483648))), (5, .int 0)] [3, 4, 5, 2, 1, 0] rfl ?_
    exact b_X5_mostBehind_22 hC hR hQ hr N _ _ _ _ _ h
  · have h := h.2 c_3
    refine k_iconst hC (pc := 13) (v := 0) dX5_mostBehind_13 ic_0 ?_
    exact k_iret hC (pc := 14) hQ hr dX5_mostBehind_14 h
theorem ct_X5_mostBehind {l : Launch} {G : Gx} {a : Ax} {s : Sx} {N : Nat} {post : Int32 → Sx → Prop} (x2 : Int32) (h : w_X5_mostBehind N x2 s post) : Met l yX5_mostBehind (Cond.code yX5_mostBehind cX5_mostBehind 6 (some .int) :: gw) { frames := 4, cells := 0, slots := 0, locals := 90 } (va_Pc [.ref (adr G a 0 34), .ref (adr G a 0 1), .int x2] (fun U => FU G a s U)) (Qi G a post) 0 0 (bs_ G) := met_of (plainFor_of_name (by decide)) (Nat.le_of_ble_eq_true rfl) rfl (fun X hC hl hR hQ hr hG hn => by subst hG; exact b_X5_mostBehind hC hR hQ hr hn s x2 h)
theorem ca_X5_mostBehind : Ca yX5_mostBehind cX5_mostBehind 6 (some .int) 2 := ⟨cd_X5_mostBehind, ii_RX5, by decide, by decide, by decide +kernel⟩
def w_X5_firstOfMost_3 (N : Nat) (post : Int32 → Sx → Prop) : Nat → Sx → Int32 → Int32 → Int32 → Prop
  | 0, _, _, _, _ => False
  | n + 1, s, x2, x3, x4 => ((s.1 0 34 4) ≤ x4 → post 0 s) ∧ (¬ ((s.1 0 34 4) ≤ x4) → w_X5_gainFrom N x2 x4 x3 s (fun r_3 s_2 => vp_in x3 256 ∧ (¬ r_3 = (s_2.1 0 39 x3.toNatClampNeg) → ∀ x_6 : Int32, x_6 = x4 + 1 → w_X5_firstOfMost_3 N post n s_2 x2 x3 x_6) ∧ (¬ (¬ r_3 = (s_2.1 0 39 x3.toNatClampNeg)) → post x4 s_2)))
def w_X5_firstOfMost (N : Nat) (x2 : Int32) (x3 : Int32) (s : Sx) (post : Int32 → Sx → Prop) : Prop := w_X5_firstOfMost_3 N post N s x2 x3 0
set_option maxHeartbeats 4000000 in
theorem b_X5_firstOfMost_3 {X : Kx} {a : Ax} {N : Nat} {post : Int32 → Sx → Prop}  (hC : Cx X cX5_firstOfMost 5 RX5) (hR : X.R = { frames := 4, cells := 0, slots := 0, locals := 90 }) (hQ : X.Q = MQ X.below (Qi X.G a post) X.av X.s 0 0 (bs_ X.G)) (hr : X.meth.sig.returnType = (some .int))   : ∀ (n : Nat) (s : Sx) (x2 : Int32) (x3 : Int32) (x4 : Int32), w_X5_firstOfMost_3 N post  n s x2 x3 x4 → wk X a s 5 3 [(0, .ref (adr X.G a 0 34)), (1, .ref (adr X.G a 0 1)), (2, .int x2), (3, .int x3), (4, .int x4)] [] 0 0 := by
  intro n
  induction n with
  | zero => intro s x2 x3 x4 h; exact h.elim
  | succ n ih =>
    intro s x2 x3 x4 h
    unfold w_X5_firstOfMost_3 at h
    refine k_iload hC (pc := 3) dX5_firstOfMost_3 4 rfl ?_
    refine k_aload_n hC (pc := 5) dX5_firstOfMost_5 0 rfl ?_
    refine gf_X5_4 hC (pc := 6)  fl_RX5_33 dX5_firstOfMost_6 ?_
    refine k_icmp_ge hC (pc := 9) 39 dX5_firstOfMost_9 (by decide) (fun c_1 => ?_) (fun c_1 => ?_)
    · have h := h.1 c_1
      refine k_iconst hC (pc := 39) (v := 0) dX5_firstOfMost_39 ic_0 ?_
      exact k_iret hC (pc := 40) hQ hr dX5_firstOfMost_40 h
    · have h := h.2 c_1
      refine k_aload_n hC (pc := 12) dX5_firstOfMost_12 0 rfl ?_
      refine k_aload_n hC (pc := 13) dX5_firstOfMost_13 1 rfl ?_
      refine k_iload_n hC (pc := 14) dX5_firstOfMost_14 2 rfl ?_
      refine k_iload hC (pc := 15) dX5_firstOfMost_15 4 rfl ?_
      refine k_iload_n hC (pc := 17) dX5_firstOfMost_17 3 rfl ?_
      refine k_ci (rn_V hC (pc := 18) (As := [.ref (adr X.G a 0 1), .int x2, .int x4, .int x3]) (rest := []) ca_X5_gainFrom ml_RX5_77 im_X5_gainFrom se_X5_gainFrom (fx_in f0_34) (ob0_34 _ _ _ _ _) rfl rfl (ct_X5_gainFrom x2 x4 x3 h) (by rw [hR]; exact ⟨rfl, rfl, by decide, by decide⟩) rfl (Nat.le_of_ble_eq_true rfl) dX5_firstOfMost_18 ⟨by rw [hR]; decide, by rw [hR]; decide⟩) (fun r_3 s_2 h => ?_)
      refine k_aload_n hC (pc := 21) dX5_firstOfMost_21 0 rfl ?_
      refine gf_X5_5 hC (pc := 22)  fl_RX5_27 dX5_firstOfMost_22 ?_
      refine k_iload_n hC (pc := 25) dX5_firstOfMost_25 3 rfl ?_
      obtain ⟨c_4, h⟩ := h
      refine r_iald hC (pc := 26) ra0_39 c_4 dX5_firstOfMost_26 ?_
      refine k_icmp_ne hC (pc := 27) 33 dX5_firstOfMost_27 (by decide) (fun c_5 => ?_) (fun c_5 => ?_)
      · have h := h.1 c_5
        obtain ⟨x_6, h_x_6⟩ : ∃ z : Int32, z = x4 + 1 := ⟨_, rfl⟩
        have h := h x_6 h_x_6
        refine k_iincw hC (pc := 33) dX5_firstOfMost_33 4 rfl ic_1 h_x_6.symm [(4, .int x_6), (0, .ref (adr X.G a 0 34)), (1, .ref (adr X.G a 0 1)), (2, .int x2), (3, .int x3)] (by decide) rfl ?_
        refine k_goto hC (pc := 36) 3 dX5_firstOfMost_36 (by decide) ?_
        refine k_sub [(0, .ref (adr X.G a 0 34)), (1, .ref (adr X.G a 0 1)), (2, .int x2), (3, .int x3), (4, .int x_6)] [1, 2, 3, 4, 0] rfl ?_
        exact ih _ _ _ _ h
      · have h := h.2 c_5
        refine k_iload hC (pc := 30) dX5_firstOfMost_30 4 rfl ?_
        exact k_iret hC (pc := 32) hQ hr dX5_firstOfMost_32 h
set_option maxHeartbeats 4000000 in
theorem b_X5_firstOfMost {X : Kx} {a : Ax} {N : Nat} {post : Int32 → Sx → Prop} (hC : Cx X cX5_firstOfMost 5 RX5) (hR : X.R = { frames := 4, cells := 0, slots := 0, locals := 90 }) (hQ : X.Q = MQ X.below (Qi X.G a post) X.av X.s 0 0 (bs_ X.G)) (hr : X.meth.sig.returnType = (some .int)) (hn : X.meth.name = "firstOfMost") (s : Sx) (x2 : Int32) (x3 : Int32) (h : w_X5_firstOfMost N x2 x3 s post) : wk X a s 5 0 [(0, .ref (adr X.G a 0 34)), (1, .ref (adr X.G a 0 1)), (2, .int x2), (3, .int x3)] [] 0 0 := by
  unfold w_X5_firstOfMost at h
  refine k_iconst hC (pc := 0) (v := 0) dX5_firstOfMost_0 ic_0 ?_
  refine k_istore hC (pc := 1) dX5_firstOfMost_1 [(4, .int 0), (0, .ref (adr X.G a 0 34)), (1, .ref (adr X.G a 0 1)), (2, .int x2), (3, .int x3)] (by decide) rfl ?_
  refine k_sub [(0, .ref (adr X.G a 0 34)), (1, .ref (adr X.G a 0 1)), (2, .int x2), (3, .int x3), (4, .int 0)] [1, 2, 3, 4, 0] rfl ?_
  exact b_X5_firstOfMost_3 hC hR hQ hr N _ _ _ _ h
theorem ct_X5_firstOfMost {l : Launch} {G : Gx} {a : Ax} {s : Sx} {N : Nat} {post : Int32 → Sx → Prop} (x2 : Int32) (x3 : Int32) (h : w_X5_firstOfMost N x2 x3 s post) : Met l yX5_firstOfMost (Cond.code yX5_firstOfMost cX5_firstOfMost 5 (some .int) :: gw) { frames := 4, cells := 0, slots := 0, locals := 90 } (va_Pc [.ref (adr G a 0 34), .ref (adr G a 0 1), .int x2, .int x3] (fun U => FU G a s U)) (Qi G a post) 0 0 (bs_ G) := met_of (plainFor_of_name (by decide)) (Nat.le_of_ble_eq_true rfl) rfl (fun X hC hl hR hQ hr hG hn => by subst hG; exact b_X5_firstOfMost hC hR hQ hr hn s x2 x3 h)
theorem ca_X5_firstOfMost : Ca yX5_firstOfMost cX5_firstOfMost 5 (some .int) 3 := ⟨cd_X5_firstOfMost, ii_RX5, by decide, by decide, by decide +kernel⟩
def w_X5_findBestMove_48 (N : Nat) (post : Int32 → Sx → Prop) : Nat → Sx → Int32 → Int32 → Prop
  | 0, _, _, _ => False
  | n + 1, s, x2, x3 => ((s.1 0 1 4) ≤ x3 → post 1 s) ∧ (¬ ((s.1 0 1 4) ≤ x3) → w_X5_firstOfMost N x3 x2 s (fun r_7 s_6 => vp_in x3 7 ∧ ∀ s_9, s_9 = setI s_6 0 40 x3.toNatClampNeg r_7 → vp_in x3 7 ∧ ∀ x_11 : Int32, x_11 = x2 ||| (1 <<< ((s_9.1 0 40 x3.toNatClampNeg) &&& 31)) → ∀ x_12 : Int32, x_12 = x3 + 1 → w_X5_findBestMove_48 N post n s_9 x_11 x_12))
def w_X5_findBestMove_9 (N : Nat) (post : Int32 → Sx → Prop) : Nat → Sx → Int32 → Prop
  | 0, _, _ => False
  | n + 1, s, x2 => (x2 < 0 → vp_in 0 256 ∧ (¬ (s.1 0 39 (0 : Int32).toNatClampNeg) = ((-2147483648)) → w_X5_findBestMove_48 N post N s 0 0) ∧ (¬ (¬ (s.1 0 39 (0 : Int32).toNatClampNeg) = ((-2147483648))) → post 0 s)) ∧ (¬ (x2 < 0) → w_X5_mostBehind N x2 s (fun r_14 s_13 => vp_in x2 256 ∧ ∀ s_16, s_16 = setI s_13 0 39 x2.toNatClampNeg r_14 → ∀ x_17 : Int32, x_17 = x2 + (-1) → w_X5_findBestMove_9 N post n s_16 x_17))
def w_X5_findBestMove (N : Nat) (s : Sx) (post : Int32 → Sx → Prop) : Prop := ∀ x_1 : Int32, x_1 = (1 <<< ((s.1 0 34 4) &&& 31)) - 1 → w_X5_findBestMove_9 N post N s x_1
set_option maxHeartbeats 4000000 in
theorem b_X5_findBestMove_48 {X : Kx} {a : Ax} {N : Nat} {post : Int32 → Sx → Prop}  (hC : Cx X cX5_findBestMove 4 RX5) (hR : X.R = { frames := 5, cells := 0, slots := 0, locals := 115 }) (hQ : X.Q = MQ X.below (Qi X.G a post) X.av X.s 0 0 (bs_ X.G)) (hr : X.meth.sig.returnType = (some .boolean))   : ∀ (n : Nat) (s : Sx) (x2 : Int32) (x3 : Int32), w_X5_findBestMove_48 N post  n s x2 x3 → wk X a s 4 48 [(0, .ref (adr X.G a 0 34)), (1, .ref (adr X.G a 0 1)), (2, .int x2), (3, .int x3)] [] 0 0 := by
  intro n
  induction n with
  | zero => intro s x2 x3 h; exact h.elim
  | succ n ih =>
    intro s x2 x3 h
    unfold w_X5_findBestMove_48 at h
    refine k_iload_n hC (pc := 48) dX5_findBestMove_48 3 rfl ?_
    refine k_aload_n hC (pc := 49) dX5_findBestMove_49 1 rfl ?_
    refine gf_X0_4 hC (pc := 50)  fl_RX5_42 dX5_findBestMove_50 ?_
    refine k_icmp_ge hC (pc := 53) 86 dX5_findBestMove_53 (by decide) (fun c_5 => ?_) (fun c_5 => ?_)
    · have h := h.1 c_5
      refine k_iconst hC (pc := 86) (v := 1) dX5_findBestMove_86 ic_1 ?_
      exact k_zret hC (pc := 87) hQ hr dX5_findBestMove_87 (Or.inr rfl) h
    · have h := h.2 c_5
      refine k_aload_n hC (pc := 56) dX5_findBestMove_56 0 rfl ?_
      refine gf_X5_6 hC (pc := 57)  fl_RX5_30 dX5_findBestMove_57 ?_
      refine k_iload_n hC (pc := 60) dX5_findBestMove_60 3 rfl ?_
      refine k_aload_n hC (pc := 61) dX5_findBestMove_61 0 rfl ?_
      refine k_aload_n hC (pc := 62) dX5_findBestMove_62 1 rfl ?_
      refine k_iload_n hC (pc := 63) dX5_findBestMove_63 3 rfl ?_
      refine k_iload_n hC (pc := 64) dX5_findBestMove_64 2 rfl ?_
      refine k_ci (rn_V hC (pc := 65) (As := [.ref (adr X.G a 0 1), .int x3, .int x2]) (rest := [.int x3, .ref (adr X.G a 0 40)]) ca_X5_firstOfMost ml_RX5_45 im_X5_firstOfMost se_X5_firstOfMost (fx_in f0_34) (ob0_34 _ _ _ _ _) rfl rfl (ct_X5_firstOfMost x3 x2 h) (by rw [hR]; exact ⟨rfl, rfl, by decide, by decide⟩) rfl (Nat.le_of_ble_eq_true rfl) dX5_findBestMove_65 ⟨by rw [hR]; decide, by rw [hR]; decide⟩) (fun r_7 s_6 h => ?_)
      obtain ⟨c_8, h⟩ := h
      refine r_iast hC (pc := 68) ra0_40 c_8 dX5_findBestMove_68 (fun s_9 h_s_9 => ?_)
      have h := h s_9 h_s_9
      refine k_iload_n hC (pc := 69) dX5_findBestMove_69 2 rfl ?_
      refine k_iconst hC (pc := 70) (v := 1) dX5_findBestMove_70 ic_1 ?_
      refine k_aload_n hC (pc := 71) dX5_findBestMove_71 0 rfl ?_
      refine gf_X5_6 hC (pc := 72)  fl_RX5_30 dX5_findBestMove_72 ?_
      refine k_iload_n hC (pc := 75) dX5_findBestMove_75 3 rfl ?_
      obtain ⟨c_10, h⟩ := h
      refine r_iald hC (pc := 76) ra0_40 c_10 dX5_findBestMove_76 ?_
      refine k_ishl hC (pc := 77) dX5_findBestMove_77 ?_
      refine k_ior hC (pc := 78) dX5_findBestMove_78 ?_
      refine k_topi (fun x_11 h_x_11 => ?_)
      have h := h x_11 h_x_11
      refine k_istore_n hC (pc := 79) dX5_findBestMove_79 [(2, .int x_11), (0, .ref (adr X.G a 0 34)), (1, .ref (adr X.G a 0 1)), (3, .int x3)] (by decide) rfl ?_
      obtain ⟨x_12, h_x_12⟩ : ∃ z : Int32, z = x3 + 1 := ⟨_, rfl⟩
      have h := h x_12 h_x_12
      refine k_iincw hC (pc := 80) dX5_findBestMove_80 3 rfl ic_1 h_x_12.symm [(3, .int x_12), (2, .int x_11), (0, .ref (adr X.G a 0 34)), (1, .ref (adr X.G a 0 1))] (by decide) rfl ?_
      refine k_goto hC (pc := 83) 48 dX5_findBestMove_83 (by decide) ?_
      refine k_sub [(0, .ref (adr X.G a 0 34)), (1, .ref (adr X.G a 0 1)), (2, .int x_11), (3, .int x_12)] [2, 3, 1, 0] rfl ?_
      exact ih _ _ _ h
set_option maxHeartbeats 4000000 in
theorem b_X5_findBestMove_9 {X : Kx} {a : Ax} {N : Nat} {post : Int32 → Sx → Prop}  (hC : Cx X cX5_findBestMove 4 RX5) (hR : X.R = { frames := 5, cells := 0, slots := 0, locals := 115 }) (hQ : X.Q = MQ X.below (Qi X.G a post) X.av X.s 0 0 (bs_ X.G)) (hr : X.meth.sig.returnType = (some .boolean))   : ∀ (n : Nat) (s : Sx) (x2 : Int32), w_X5_findBestMove_9 N post  n s x2 → wk X a s 4 9 [(0, .ref (adr X.G a 0 34)), (1, .ref (adr X.G a 0 1)), (2, .int x2)] [] 0 0 := by
  intro n
  induction n with
  | zero => intro s x2 h; exact h.elim
  | succ n ih =>
    intro s x2 h
    unfold w_X5_findBestMove_9 at h
    refine k_iload_n hC (pc := 9) dX5_findBestMove_9 2 rfl ?_
    refine k_if_lt hC (pc := 10) 31 dX5_findBestMove_10 (by decide) (fun c_2 => ?_) (fun c_2 => ?_)
    · have h := h.1 c_2
      refine k_aload_n hC (pc := 31) dX5_findBestMove_31 0 rfl ?_
      refine gf_X5_5 hC (pc := 32)  fl_RX5_27 dX5_findBestMove_32 ?_
      refine k_iconst hC (pc := 35) (v := 0) dX5_findBestMove_35 ic_0 ?_
      obtain ⟨c_3, h⟩ := h
      refine r_iald hC (pc := 36) ra0_39 c_3 dX5_findBestMove_36 ?_
      refine k_ldc hC (pc := 37) dX5_findBestMove_37 cn_RX5_41 ?_
      refine k_icmp_ne hC (pc := 39) 44 dX5_findBestMove_39 (by decide) (fun c_4 => ?_) (fun c_4 => ?_)
      · have h := h.1 c_4
        refine k_iconst hC (pc := 44) (v := 0) dX5_findBestMove_44 ic_0 ?_
        refine k_istore_n hC (pc := 45) dX5_findBestMove_45 [(2, .int 0), (0, .ref (adr X.G a 0 34)), (1, .ref (adr X.G a 0 1))] (by decide) rfl ?_
        refine k_iconst hC (pc := 46) (v := 0) dX5_findBestMove_46 ic_0 ?_
        refine k_istore_n hC (pc := 47) dX5_findBestMove_47 [(3, .int 0), (2, .int 0), (0, .ref (adr X.G a 0 34)), (1, .ref (adr X.G a 0 1))] (by decide) rfl ?_
        refine k_sub [(0, .ref (adr X.G a 0 34)), (1, .ref (adr X.G a 0 1)), (2, .int 0), (3, .int 0)] [2, 3, 1, 0] rfl ?_
        exact b_X5_findBestMove_48 hC hR hQ hr N _ _ _ h
      · have h := h.2 c_4
        refine k_iconst hC (pc := 42) (v := 0) dX5_findBestMove_42 ic_0 ?_
        exact k_zret hC (pc := 43) hQ hr dX5_findBestMove_43 (Or.inl rfl) h
    · have h := h.2 c_2
      refine k_aload_n hC (pc := 13) dX5_findBestMove_13 0 rfl ?_
      refine gf_X5_5 hC (pc := 14)  fl_RX5_27 dX5_findBestMove_14 ?_
      refine k_iload_n hC (pc := 17) dX5_findBestMove_17 2 rfl ?_
      refine k_aload_n hC (pc := 18) dX5_findBestMove_18 0 rfl ?_
      refine k_aload_n hC (pc := 19) dX5_findBestMove_19 1 rfl ?_
      refine k_iload_n hC (pc := 20) dX5_findBestMove_20 2 rfl ?_
      refine k_ci (rn_V hC (pc := 21) (As := [.ref (adr X.G a 0 1), .int x2]) (rest := [.int x2, .ref (adr X.G a 0 39)]) ca_X5_mostBehind ml_RX5_37 im_X5_mostBehind se_X5_mostBehind (fx_in f0_34) (ob0_34 _ _ _ _ _) rfl rfl (ct_X5_mostBehind x2 h) (by rw [hR]; exact ⟨rfl, rfl, by decide, by decide⟩) rfl (Nat.le_of_ble_eq_true rfl) dX5_findBestMove_21 ⟨by rw [hR]; decide, by rw [hR]; decide⟩) (fun r_14 s_13 h => ?_)
      obtain ⟨c_15, h⟩ := h
      refine r_iast hC (pc := 24) ra0_39 c_15 dX5_findBestMove_24 (fun s_16 h_s_16 => ?_)
      have h := h s_16 h_s_16
      obtain ⟨x_17, h_x_17⟩ : ∃ z : Int32, z = x2 + (-1) := ⟨_, rfl⟩
      have h := h x_17 h_x_17
      refine k_iincw hC (pc := 25) dX5_findBestMove_25 2 rfl ic_m1 h_x_17.symm [(2, .int x_17), (0, .ref (adr X.G a 0 34)), (1, .ref (adr X.G a 0 1))] (by decide) rfl ?_
      refine k_goto hC (pc := 28) 9 dX5_findBestMove_28 (by decide) ?_
      refine k_sub [(0, .ref (adr X.G a 0 34)), (1, .ref (adr X.G a 0 1)), (2, .int x_17)] [1, 2, 0] rfl ?_
      exact ih _ _ h
set_option maxHeartbeats 4000000 in
theorem b_X5_findBestMove {X : Kx} {a : Ax} {N : Nat} {post : Int32 → Sx → Prop} (hC : Cx X cX5_findBestMove 4 RX5) (hR : X.R = { frames := 5, cells := 0, slots := 0, locals := 115 }) (hQ : X.Q = MQ X.below (Qi X.G a post) X.av X.s 0 0 (bs_ X.G)) (hr : X.meth.sig.returnType = (some .boolean)) (hn : X.meth.name = "findBestMove") (s : Sx) (h : w_X5_findBestMove N s post) : wk X a s 4 0 [(0, .ref (adr X.G a 0 34)), (1, .ref (adr X.G a 0 1))] [] 0 0 := by
  unfold w_X5_findBestMove at h
  refine k_iconst hC (pc := 0) (v := 1) dX5_findBestMove_0 ic_1 ?_
  refine k_aload_n hC (pc := 1) dX5_findBestMove_1 0 rfl ?_
  refine gf_X5_4 hC (pc := 2)  fl_RX5_33 dX5_findBestMove_2 ?_
  refine k_ishl hC (pc := 5) dX5_findBestMove_5 ?_
  refine k_iconst hC (pc := 6) (v := 1) dX5_findBestMove_6 ic_1 ?_
  refine k_isub hC (pc := 7) dX5_findBestMove_7 ?_
  refine k_topi (fun x_1 h_x_1 => ?_)
  have h := h x_1 h_x_1
  refine k_istore_n hC (pc := 8) dX5_findBestMove_8 [(2, .int x_1), (0, .ref (adr X.G a 0 34)), (1, .ref (adr X.G a 0 1))] (by decide) rfl ?_
  refine k_sub [(0, .ref (adr X.G a 0 34)), (1, .ref (adr X.G a 0 1)), (2, .int x_1)] [1, 2, 0] rfl ?_
  exact b_X5_findBestMove_9 hC hR hQ hr N _ _ h
theorem ct_X5_findBestMove {l : Launch} {G : Gx} {a : Ax} {s : Sx} {N : Nat} {post : Int32 → Sx → Prop} (h : w_X5_findBestMove N s post) : Met l yX5_findBestMove (Cond.code yX5_findBestMove cX5_findBestMove 4 (some .boolean) :: gw) { frames := 5, cells := 0, slots := 0, locals := 115 } (va_Pc [.ref (adr G a 0 34), .ref (adr G a 0 1)] (fun U => FU G a s U)) (Qi G a post) 0 0 (bs_ G) := met_of (plainFor_of_name (by decide)) (Nat.le_of_ble_eq_true rfl) rfl (fun X hC hl hR hQ hr hG hn => by subst hG; exact b_X5_findBestMove hC hR hQ hr hn s h)
theorem ca_X5_findBestMove : Ca yX5_findBestMove cX5_findBestMove 4 (some .boolean) 1 := ⟨cd_X5_findBestMove, ii_RX5, by decide, by decide, by decide +kernel⟩
def w_X5_bestGain (N : Nat) (s : Sx) (post : Int32 → Sx → Prop) : Prop := vp_in 0 256 ∧ post (s.1 0 39 (0 : Int32).toNatClampNeg) s
set_option maxHeartbeats 4000000 in
theorem b_X5_bestGain {X : Kx} {a : Ax} {N : Nat} {post : Int32 → Sx → Prop} (hC : Cx X cX5_bestGain 1 RX5) (hR : X.R = { frames := 0, cells := 0, slots := 0, locals := 0 }) (hQ : X.Q = MQ X.below (Qi X.G a post) X.av X.s 0 0 (bs_ X.G)) (hr : X.meth.sig.returnType = (some .int)) (hn : X.meth.name = "bestGain") (s : Sx) (h : w_X5_bestGain N s post) : wk X a s 1 0 [(0, .ref (adr X.G a 0 34))] [] 0 0 := by
  unfold w_X5_bestGain at h
  refine k_aload_n hC (pc := 0) dX5_bestGain_0 0 rfl ?_
  refine gf_X5_5 hC (pc := 1)  fl_RX5_27 dX5_bestGain_1 ?_
  refine k_iconst hC (pc := 4) (v := 0) dX5_bestGain_4 ic_0 ?_
  obtain ⟨c_1, h⟩ := h
  refine r_iald hC (pc := 5) ra0_39 c_1 dX5_bestGain_5 ?_
  exact k_iret hC (pc := 6) hQ hr dX5_bestGain_6 h
theorem ct_X5_bestGain {l : Launch} {G : Gx} {a : Ax} {s : Sx} {N : Nat} {post : Int32 → Sx → Prop} (h : w_X5_bestGain N s post) : Met l yX5_bestGain (Cond.code yX5_bestGain cX5_bestGain 1 (some .int) :: gw) { frames := 0, cells := 0, slots := 0, locals := 0 } (va_Pc [.ref (adr G a 0 34)] (fun U => FU G a s U)) (Qi G a post) 0 0 (bs_ G) := met_of (plainFor_of_name (by decide)) (Nat.le_of_ble_eq_true rfl) rfl (fun X hC hl hR hQ hr hG hn => by subst hG; exact b_X5_bestGain hC hR hQ hr hn s h)
theorem ca_X5_bestGain : Ca yX5_bestGain cX5_bestGain 1 (some .int) 0 := ⟨cd_X5_bestGain, ii_RX5, by decide, by decide, by decide +kernel⟩
def w_X5_moveCamps_2 (N : Nat) (post : Sx → Prop) : Nat → Sx → Int32 → Prop
  | 0, _, _ => False
  | n + 1, s, x2 => ((s.1 0 1 4) ≤ x2 → post s) ∧ (¬ ((s.1 0 1 4) ≤ x2) → vp_in x2 7 ∧ vp_in (s.1 0 40 x2.toNatClampNeg) 8 ∧ vp_in x2 7 ∧ ∀ s_5, s_5 = setI s 0 2 x2.toNatClampNeg (s.1 0 35 (s.1 0 40 x2.toNatClampNeg).toNatClampNeg) → vp_in x2 7 ∧ vp_in (s_5.1 0 40 x2.toNatClampNeg) 8 ∧ vp_in x2 7 ∧ ∀ s_9, s_9 = setI s_5 0 3 x2.toNatClampNeg (s_5.1 0 36 (s_5.1 0 40 x2.toNatClampNeg).toNatClampNeg) → ∀ x_10 : Int32, x_10 = x2 + 1 → w_X5_moveCamps_2 N post n s_9 x_10)
def w_X5_moveCamps (N : Nat) (s : Sx) (post : Sx → Prop) : Prop := w_X5_moveCamps_2 N post N s 0
set_option maxHeartbeats 4000000 in
theorem b_X5_moveCamps_2 {X : Kx} {a : Ax} {N : Nat} {post : Sx → Prop}  (hC : Cx X cX5_moveCamps 3 RX5) (hR : X.R = { frames := 0, cells := 0, slots := 0, locals := 0 }) (hQ : X.Q = MQ X.below (Qv X.G a post) X.av X.s 0 0 (bs_ X.G)) (hr : X.meth.sig.returnType = none)   : ∀ (n : Nat) (s : Sx) (x2 : Int32), w_X5_moveCamps_2 N post  n s x2 → wk X a s 3 2 [(0, .ref (adr X.G a 0 34)), (1, .ref (adr X.G a 0 1)), (2, .int x2)] [] 0 0 := by
  intro n
  induction n with
  | zero => intro s x2 h; exact h.elim
  | succ n ih =>
    intro s x2 h
    unfold w_X5_moveCamps_2 at h
    refine k_iload_n hC (pc := 2) dX5_moveCamps_2 2 rfl ?_
    refine k_aload_n hC (pc := 3) dX5_moveCamps_3 1 rfl ?_
    refine gf_X0_4 hC (pc := 4)  fl_RX5_42 dX5_moveCamps_4 ?_
    refine k_icmp_ge hC (pc := 7) 50 dX5_moveCamps_7 (by decide) (fun c_1 => ?_) (fun c_1 => ?_)
    · have h := h.1 c_1
      exact k_vret hC (pc := 50) hQ hr dX5_moveCamps_50 h
    · have h := h.2 c_1
      refine k_aload_n hC (pc := 10) dX5_moveCamps_10 1 rfl ?_
      refine gf_X0_0 hC (pc := 11)  fl_RX5_49 dX5_moveCamps_11 ?_
      refine k_iload_n hC (pc := 14) dX5_moveCamps_14 2 rfl ?_
      refine k_aload_n hC (pc := 15) dX5_moveCamps_15 0 rfl ?_
      refine gf_X5_0 hC (pc := 16)  fl_RX5_13 dX5_moveCamps_16 ?_
      refine k_aload_n hC (pc := 19) dX5_moveCamps_19 0 rfl ?_
      refine gf_X5_6 hC (pc := 20)  fl_RX5_30 dX5_moveCamps_20 ?_
      refine k_iload_n hC (pc := 23) dX5_moveCamps_23 2 rfl ?_
      obtain ⟨c_2, h⟩ := h
      refine r_iald hC (pc := 24) ra0_40 c_2 dX5_moveCamps_24 ?_
      obtain ⟨c_3, h⟩ := h
      refine r_iald hC (pc := 25) ra0_35 c_3 dX5_moveCamps_25 ?_
      obtain ⟨c_4, h⟩ := h
      refine r_iast hC (pc := 26) ra0_2 c_4 dX5_moveCamps_26 (fun s_5 h_s_5 => ?_)
      have h := h s_5 h_s_5
      refine k_aload_n hC (pc := 27) dX5_moveCamps_27 1 rfl ?_
      refine gf_X0_1 hC (pc := 28)  fl_RX5_50 dX5_moveCamps_28 ?_
      refine k_iload_n hC (pc := 31) dX5_moveCamps_31 2 rfl ?_
      refine k_aload_n hC (pc := 32) dX5_moveCamps_32 0 rfl ?_
      refine gf_X5_1 hC (pc := 33)  fl_RX5_17 dX5_moveCamps_33 ?_
      refine k_aload_n hC (pc := 36) dX5_moveCamps_36 0 rfl ?_
      refine gf_X5_6 hC (pc := 37)  fl_RX5_30 dX5_moveCamps_37 ?_
      refine k_iload_n hC (pc := 40) dX5_moveCamps_40 2 rfl ?_
      obtain ⟨c_6, h⟩ := h
      refine r_iald hC (pc := 41) ra0_40 c_6 dX5_moveCamps_41 ?_
      obtain ⟨c_7, h⟩ := h
      refine r_iald hC (pc := 42) ra0_36 c_7 dX5_moveCamps_42 ?_
      obtain ⟨c_8, h⟩ := h
      refine r_iast hC (pc := 43) ra0_3 c_8 dX5_moveCamps_43 (fun s_9 h_s_9 => ?_)
      have h := h s_9 h_s_9
      obtain ⟨x_10, h_x_10⟩ : ∃ z : Int32, z = x2 + 1 := ⟨_, rfl⟩
      have h := h x_10 h_x_10
      refine k_iincw hC (pc := 44) dX5_moveCamps_44 2 rfl ic_1 h_x_10.symm [(2, .int x_10), (0, .ref (adr X.G a 0 34)), (1, .ref (adr X.G a 0 1))] (by decide) rfl ?_
      refine k_goto hC (pc := 47) 2 dX5_moveCamps_47 (by decide) ?_
      refine k_sub [(0, .ref (adr X.G a 0 34)), (1, .ref (adr X.G a 0 1)), (2, .int x_10)] [1, 2, 0] rfl ?_
      exact ih _ _ h
set_option maxHeartbeats 4000000 in
theorem b_X5_moveCamps {X : Kx} {a : Ax} {N : Nat} {post : Sx → Prop} (hC : Cx X cX5_moveCamps 3 RX5) (hR : X.R = { frames := 0, cells := 0, slots := 0, locals := 0 }) (hQ : X.Q = MQ X.below (Qv X.G a post) X.av X.s 0 0 (bs_ X.G)) (hr : X.meth.sig.returnType = none) (hn : X.meth.name = "moveCamps") (s : Sx) (h : w_X5_moveCamps N s post) : wk X a s 3 0 [(0, .ref (adr X.G a 0 34)), (1, .ref (adr X.G a 0 1))] [] 0 0 := by
  unfold w_X5_moveCamps at h
  refine k_iconst hC (pc := 0) (v := 0) dX5_moveCamps_0 ic_0 ?_
  refine k_istore_n hC (pc := 1) dX5_moveCamps_1 [(2, .int 0), (0, .ref (adr X.G a 0 34)), (1, .ref (adr X.G a 0 1))] (by decide) rfl ?_
  refine k_sub [(0, .ref (adr X.G a 0 34)), (1, .ref (adr X.G a 0 1)), (2, .int 0)] [1, 2, 0] rfl ?_
  exact b_X5_moveCamps_2 hC hR hQ hr N _ _ h
theorem ct_X5_moveCamps {l : Launch} {G : Gx} {a : Ax} {s : Sx} {N : Nat} {post : Sx → Prop} (h : w_X5_moveCamps N s post) : Met l yX5_moveCamps (Cond.code yX5_moveCamps cX5_moveCamps 3 none :: gw) { frames := 0, cells := 0, slots := 0, locals := 0 } (va_Pc [.ref (adr G a 0 34), .ref (adr G a 0 1)] (fun U => FU G a s U)) (Qv G a post) 0 0 (bs_ G) := met_of (plainFor_of_name (by decide)) (Nat.le_of_ble_eq_true rfl) rfl (fun X hC hl hR hQ hr hG hn => by subst hG; exact b_X5_moveCamps hC hR hQ hr hn s h)
theorem ca_X5_moveCamps : Ca yX5_moveCamps cX5_moveCamps 3 none 1 := ⟨cd_X5_moveCamps, ii_RX5, by decide, by decide, by decide +kernel⟩
def w_X5_gainBy_9 (N : Nat) (k2 : Nat) (post : Int64 → Sx → Prop) : Nat → Sx → Int32 → Int64 → Int32 → Int32 → Prop
  | 0, _, _, _, _, _ => False
  | n + 1, s, x3, y4, x6, x7 => ((s.1 0 1 4) ≤ x7 → post y4 s) ∧ (¬ ((s.1 0 1 4) ≤ x7) → w_X7_read N k2 (x3 + x7) s (fun r_3 s_2 => w_X11_isWithin N r_3 0 ((s_2.1 0 34 4) - 1) s_2 (fun r_5 s_4 => (r_5 = 0 → post ((-9223372036854775808)) s_4) ∧ (¬ (r_5 = 0) → w_X5_isFree N r_3 x6 s_4 (fun r_8 s_7 => (¬ r_8 = 0 → w_X5_gainOf N x7 r_3 s_7 (fun r_11 s_10 => ∀ x_12 : Int64, x_12 = y4 + r_11.toInt64 → ∀ x_13 : Int32, x_13 = x6 ||| (1 <<< (r_3 &&& 31)) → ∀ x_14 : Int32, x_14 = x7 + 1 → w_X5_gainBy_9 N k2 post n s_10 x3 x_12 x_13 x_14)) ∧ (¬ (¬ r_8 = 0) → post ((-9223372036854775808)) s_7))))))
def w_X5_gainBy (N : Nat) (k2 : Nat) (x3 : Int32) (s : Sx) (post : Int64 → Sx → Prop) : Prop := k2 < 4 ∧ w_X5_gainBy_9 N k2 post N s x3 0 0 0
set_option maxHeartbeats 4000000 in
theorem b_X5_gainBy_9 {X : Kx} {a : Ax} {N : Nat} {k2 : Nat} {post : Int64 → Sx → Prop}  (hC : Cx X cX5_gainBy 9 RX5) (hR : X.R = { frames := 3, cells := 0, slots := 0, locals := 66 }) (hQ : X.Q = MQ X.below (Ql X.G a post) X.av X.s 0 0 (bs_ X.G)) (hr : X.meth.sig.returnType = (some .long)) (hk2 : k2 < 4)  : ∀ (n : Nat) (s : Sx) (x3 : Int32) (y4 : Int64) (x6 : Int32) (x7 : Int32), w_X5_gainBy_9 N k2 post  n s x3 y4 x6 x7 → wk X a s 9 9 [(0, .ref (adr X.G a 0 34)), (1, .ref (adr X.G a 0 1)), (2, .ref (adr X.G a 0 (42 + k2))), (3, .int x3), (4, .long y4), (6, .int x6), (7, .int x7)] [] 0 0 := by
  intro n
  induction n with
  | zero => intro s x3 y4 x6 x7 h; exact h.elim
  | succ n ih =>
    intro s x3 y4 x6 x7 h
    unfold w_X5_gainBy_9 at h
    refine k_iload hC (pc := 9) dX5_gainBy_9 6 rfl ?_
    refine k_aload_n hC (pc := 11) dX5_gainBy_11 1 rfl ?_
    refine gf_X0_4 hC (pc := 12)  fl_RX5_42 dX5_gainBy_12 ?_
    refine k_icmp_ge hC (pc := 15) 88 dX5_gainBy_15 (by decide) (fun c_1 => ?_) (fun c_1 => ?_)
    · have h := h.1 c_1
      refine k_lload hC (pc := 88) dX5_gainBy_88 4 rfl ?_
      exact k_lret hC (pc := 90) hQ hr dX5_gainBy_90 h
    · have h := h.2 c_1
      refine k_aload_n hC (pc := 18) dX5_gainBy_18 2 rfl ?_
      refine k_iload_n hC (pc := 19) dX5_gainBy_19 3 rfl ?_
      refine k_iload hC (pc := 20) dX5_gainBy_20 6 rfl ?_
      refine k_iadd hC (pc := 22) dX5_gainBy_22 ?_
      refine k_ci (rn_V hC (pc := 23) (As := [.int (x3 + x7)]) (rest := []) ca_X7_read ml_RX5_51 im_X7_read se_X7_read (fx_in (sh_f hk2)) (sh_o hk2 _ _ _ _ _) rfl rfl (ct_X7_read k2 (x3 + x7) h) (by rw [hR]; exact ⟨rfl, rfl, by decide, by decide⟩) rfl (Nat.le_of_ble_eq_true rfl) dX5_gainBy_23 ⟨by rw [hR]; decide, by rw [hR]; decide⟩) (fun r_3 s_2 h => ?_)
      refine k_istore hC (pc := 26) dX5_gainBy_26 [(8, .int r_3), (0, .ref (adr X.G a 0 34)), (1, .ref (adr X.G a 0 1)), (2, .ref (adr X.G a 0 (42 + k2))), (3, .int x3), (4, .long y4), (6, .int x6), (7, .int x7)] (by decide) rfl ?_
      refine k_iload hC (pc := 28) dX5_gainBy_28 0 rfl ?_
      refine k_iconst hC (pc := 30) (v := 0) dX5_gainBy_30 ic_0 ?_
      refine k_aload_n hC (pc := 31) dX5_gainBy_31 1 rfl ?_
      refine gf_X5_4 hC (pc := 32)  fl_RX5_33 dX5_gainBy_32 ?_
      refine k_iconst hC (pc := 35) (v := 1) dX5_gainBy_35 ic_1 ?_
      refine k_isub hC (pc := 36) dX5_gainBy_36 ?_
      refine k_ci (rn_SN hC (pc := 37) (As := [.int r_3, .int 0, .int ((s_2.1 0 34 4) - 1)]) (rest := []) ca_X11_isWithin nl_RX5_57 sm_X11_isWithin (ct_X11_isWithin r_3 0 ((s_2.1 0 34 4) - 1) h) (by rw [hR]; exact ⟨rfl, rfl, by decide, by decide⟩) rfl (Nat.le_of_ble_eq_true rfl) dX5_gainBy_37 ⟨by rw [hR]; decide, by rw [hR]; decide⟩) (fun r_5 s_4 h => ?_)
      refine k_if_eq hC (pc := 40) 54 dX5_gainBy_40 (by decide) (fun c_6 => ?_) (fun c_6 => ?_)
      · have h := h.1 c_6
        refine k_ldc2 hC (pc := 54) dX5_gainBy_54 cn_RX5_65 ?_
        exact k_lret hC (pc := 57) hQ hr dX5_gainBy_57 h
      · have h := h.2 c_6
        refine k_aload_n hC (pc := 43) dX5_gainBy_43 1 rfl ?_
        refine k_iload hC (pc := 44) dX5_gainBy_44 0 rfl ?_
        refine k_iload hC (pc := 46) dX5_gainBy_46 6 rfl ?_
        refine k_ci (rn_V hC (pc := 48) (As := [.int r_3, .int x6]) (rest := []) ca_X5_isFree ml_RX5_61 im_X5_isFree se_X5_isFree (fx_in f0_34) (ob0_34 _ _ _ _ _) rfl rfl (ct_X5_isFree r_3 x6 h) (by rw [hR]; exact ⟨rfl, rfl, by decide, by decide⟩) rfl (Nat.le_of_ble_eq_true rfl) dX5_gainBy_48 ⟨by rw [hR]; decide, by rw [hR]; decide⟩) (fun r_8 s_7 h => ?_)
        refine k_if_ne hC (pc := 51) 58 dX5_gainBy_51 (by decide) (fun c_9 => ?_) (fun c_9 => ?_)
        · have h := h.1 c_9
          refine k_lload hC (pc := 58) dX5_gainBy_58 5 rfl ?_
          refine k_aload_n hC (pc := 60) dX5_gainBy_60 1 rfl ?_
          refine k_aload_n hC (pc := 61) dX5_gainBy_61 2 rfl ?_
          refine k_iload hC (pc := 62) dX5_gainBy_62 7 rfl ?_
          refine k_iload hC (pc := 64) dX5_gainBy_64 0 rfl ?_
          refine k_ci (rn_V hC (pc := 66) (As := [.ref (adr X.G a 0 1), .int x7, .int r_3]) (rest := [.long y4]) ca_X5_gainOf ml_RX5_67 im_X5_gainOf se_X5_gainOf (fx_in f0_34) (ob0_34 _ _ _ _ _) rfl rfl (ct_X5_gainOf x7 r_3 h) (by rw [hR]; exact ⟨rfl, rfl, by decide, by decide⟩) rfl (Nat.le_of_ble_eq_true rfl) dX5_gainBy_66 ⟨by rw [hR]; decide, by rw [hR]; decide⟩) (fun r_11 s_10 h => ?_)
          refine k_i2l hC (pc := 69) dX5_gainBy_69 ?_
          refine k_ladd hC (pc := 70) dX5_gainBy_70 ?_
          refine k_topl (fun x_12 h_x_12 => ?_)
          have h := h x_12 h_x_12
          refine k_lstore hC (pc := 71) dX5_gainBy_71 [(4, .long x_12), (8, .int r_3), (0, .ref (adr X.G a 0 34)), (1, .ref (adr X.G a 0 1)), (2, .ref (adr X.G a 0 (42 + k2))), (3, .int x3), (6, .int x6), (7, .int x7)] (by decide) rfl ?_
          refine k_iload hC (pc := 73) dX5_gainBy_73 6 rfl ?_
          refine k_iconst hC (pc := 75) (v := 1) dX5_gainBy_75 ic_1 ?_
          refine k_iload hC (pc := 76) dX5_gainBy_76 1 rfl ?_
          refine k_ishl hC (pc := 78) dX5_gainBy_78 ?_
          refine k_ior hC (pc := 79) dX5_gainBy_79 ?_
          refine k_topi (fun x_13 h_x_13 => ?_)
          have h := h x_13 h_x_13
          refine k_istore hC (pc := 80) dX5_gainBy_80 [(6, .int x_13), (4, .long x_12), (8, .int r_3), (0, .ref (adr X.G a 0 34)), (1, .ref (adr X.G a 0 1)), (2, .ref (adr X.G a 0 (42 + k2))), (3, .int x3), (7, .int x7)] (by decide) rfl ?_
          obtain ⟨x_14, h_x_14⟩ : ∃ z : Int32, z = x7 + 1 := ⟨_, rfl⟩
          have h := h x_14 h_x_14
          refine k_iincw hC (pc := 82) dX5_gainBy_82 7 rfl ic_1 h_x_14.symm [(7, .int x_14), (6, .int x_13), (4, .long x_12), (8, .int r_3), (0, .ref (adr X.G a 0 34)), (1, .ref (adr X.G a 0 1)), (2, .ref (adr X.G a 0 (42 + k2))), (3, .int x3)] (by decide) rfl ?_
          refine k_goto hC (pc := 85) 9 dX5_gainBy_85 (by decide) ?_
          refine k_sub [(0, .ref (adr X.G a 0 34)), (1, .ref (adr X.G a 0 1)), (2, .ref (adr X.G a 0 (42 + k2))), (3, .int x3), (4, .long x_12), (6, .int x_13), (7, .int x_14)] [4, 5, 6, 7, 2, 1, 0] rfl ?_
          exact ih _ _ _ _ _ h
        · have h := h.2 c_9
          refine k_ldc2 hC (pc := 54) dX5_gainBy_54 cn_RX5_65 ?_
          exact k_lret hC (pc := 57) hQ hr dX5_gainBy_57 h
set_option maxHeartbeats 4000000 in
theorem b_X5_gainBy {X : Kx} {a : Ax} {N : Nat} {post : Int64 → Sx → Prop} (hC : Cx X cX5_gainBy 9 RX5) (hR : X.R = { frames := 3, cells := 0, slots := 0, locals := 66 }) (hQ : X.Q = MQ X.below (Ql X.G a post) X.av X.s 0 0 (bs_ X.G)) (hr : X.meth.sig.returnType = (some .long)) (hn : X.meth.name = "gainBy") (s : Sx) (k2 : Nat) (x3 : Int32) (h : w_X5_gainBy N k2 x3 s post) : wk X a s 9 0 [(0, .ref (adr X.G a 0 34)), (1, .ref (adr X.G a 0 1)), (2, .ref (adr X.G a 0 (42 + k2))), (3, .int x3)] [] 0 0 := by
  unfold w_X5_gainBy at h
  obtain ⟨hk2, h⟩ := h
  refine k_lconst hC (pc := 0) (v := 0) dX5_gainBy_0 rfl ?_
  refine k_lstore hC (pc := 1) dX5_gainBy_1 [(4, .long 0), (0, .ref (adr X.G a 0 34)), (1, .ref (adr X.G a 0 1)), (2, .ref (adr X.G a 0 (42 + k2))), (3, .int x3)] (by decide) rfl ?_
  refine k_iconst hC (pc := 3) (v := 0) dX5_gainBy_3 ic_0 ?_
  refine k_istore hC (pc := 4) dX5_gainBy_4 [(6, .int 0), (4, .long 0), (0, .ref (adr X.G a 0 34)), (1, .ref (adr X.G a 0 1)), (2, .ref (adr X.G a 0 (42 + k2))), (3, .int x3)] (by decide) rfl ?_
  refine k_iconst hC (pc := 6) (v := 0) dX5_gainBy_6 ic_0 ?_
  refine k_istore hC (pc := 7) dX5_gainBy_7 [(7, .int 0), (6, .int 0), (4, .long 0), (0, .ref (adr X.G a 0 34)), (1, .ref (adr X.G a 0 1)), (2, .ref (adr X.G a 0 (42 + k2))), (3, .int x3)] (by decide) rfl ?_
  refine k_sub [(0, .ref (adr X.G a 0 34)), (1, .ref (adr X.G a 0 1)), (2, .ref (adr X.G a 0 (42 + k2))), (3, .int x3), (4, .long 0), (6, .int 0), (7, .int 0)] [3, 4, 5, 6, 2, 1, 0] rfl ?_
  exact b_X5_gainBy_9 hC hR hQ hr hk2 N _ _ _ _ _ h
theorem ct_X5_gainBy {l : Launch} {G : Gx} {a : Ax} {s : Sx} {N : Nat} {post : Int64 → Sx → Prop} (k2 : Nat) (x3 : Int32) (h : w_X5_gainBy N k2 x3 s post) : Met l yX5_gainBy (Cond.code yX5_gainBy cX5_gainBy 9 (some .long) :: gw) { frames := 3, cells := 0, slots := 0, locals := 66 } (va_Pc [.ref (adr G a 0 34), .ref (adr G a 0 1), .ref (adr G a 0 (42 + k2)), .int x3] (fun U => FU G a s U)) (Ql G a post) 0 0 (bs_ G) := met_of (plainFor_of_name (by decide)) (Nat.le_of_ble_eq_true rfl) rfl (fun X hC hl hR hQ hr hG hn => by subst hG; exact b_X5_gainBy hC hR hQ hr hn s k2 x3 h)
theorem ca_X5_gainBy : Ca yX5_gainBy cX5_gainBy 9 (some .long) 3 := ⟨cd_X5_gainBy, ii_RX5, by decide, by decide, by decide +kernel⟩
def w_X6_init (N : Nat) (p0 : Nat) (x1 : Int32) (x2 : Int32) (x3 : Int32) (x4 : Int32) (x5 : Int32) (s : Sx) (post : Sx → Prop) : Prop := p0 < s.2.2 0 ∧ ∀ s_2, s_2 = setI s 1 p0 0 x1 → p0 < s_2.2.2 0 ∧ ∀ s_4, s_4 = setI s_2 1 p0 1 x2 → p0 < s_4.2.2 0 ∧ ∀ s_6, s_6 = setI s_4 1 p0 2 x3 → p0 < s_6.2.2 0 ∧ ∀ s_8, s_8 = setI s_6 1 p0 3 x4 → p0 < s_8.2.2 0 ∧ ∀ s_10, s_10 = setI s_8 1 p0 4 x5 → post s_10
set_option maxHeartbeats 4000000 in
theorem b_X6_init {X : Kx} {a : Ax} {N : Nat} {post : Sx → Prop} (hC : Cx X cX6_init 6 RX6) (hR : X.R = { frames := 1, cells := 0, slots := 0, locals := 20 }) (hQ : X.Q = MQ X.below (Qv X.G a post) X.av X.s 0 0 (bs_ X.G)) (hr : X.meth.sig.returnType = none) (hn : X.meth.name = "<init>") (s : Sx) (p0 : Nat) (x1 : Int32) (x2 : Int32) (x3 : Int32) (x4 : Int32) (x5 : Int32) (h : w_X6_init N p0 x1 x2 x3 x4 x5 s post) : wk X a s 6 0 [(0, .ref (adr X.G a 1 p0)), (1, .int x1), (2, .int x2), (3, .int x3), (4, .int x4), (5, .int x5)] [] 0 0 := by
  unfold w_X6_init at h
  refine k_aload_n hC (pc := 0) dX6_init_0 0 rfl ?_
  refine k_objInit hC (pc := 1) ml_RX6_1 rfl (by rw [hR]; decide) (by rw [hR]; decide) dX6_init_1 ?_
  refine k_aload_n hC (pc := 4) dX6_init_4 0 rfl ?_
  refine k_iload_n hC (pc := 5) dX6_init_5 1 rfl ?_
  obtain ⟨c_1, h⟩ := h
  refine pf_X6_0 hC (pc := 6) hn c_1 rfl fl_RX6_7 dX6_init_6 (fun s_2 h_s_2 => ?_)
  have h := h s_2 h_s_2
  refine k_aload_n hC (pc := 9) dX6_init_9 0 rfl ?_
  refine k_iload_n hC (pc := 10) dX6_init_10 2 rfl ?_
  obtain ⟨c_3, h⟩ := h
  refine pf_X6_1 hC (pc := 11) hn c_3 rfl fl_RX6_13 dX6_init_11 (fun s_4 h_s_4 => ?_)
  have h := h s_4 h_s_4
  refine k_aload_n hC (pc := 14) dX6_init_14 0 rfl ?_
  refine k_iload_n hC (pc := 15) dX6_init_15 3 rfl ?_
  obtain ⟨c_5, h⟩ := h
  refine pf_X6_2 hC (pc := 16) hn c_5 rfl fl_RX6_16 dX6_init_16 (fun s_6 h_s_6 => ?_)
  have h := h s_6 h_s_6
  refine k_aload_n hC (pc := 19) dX6_init_19 0 rfl ?_
  refine k_iload hC (pc := 20) dX6_init_20 4 rfl ?_
  obtain ⟨c_7, h⟩ := h
  refine pf_X6_3 hC (pc := 22) hn c_7 rfl fl_RX6_19 dX6_init_22 (fun s_8 h_s_8 => ?_)
  have h := h s_8 h_s_8
  refine k_aload_n hC (pc := 25) dX6_init_25 0 rfl ?_
  refine k_iload hC (pc := 26) dX6_init_26 5 rfl ?_
  obtain ⟨c_9, h⟩ := h
  refine pf_X6_4 hC (pc := 28) hn c_9 rfl fl_RX6_22 dX6_init_28 (fun s_10 h_s_10 => ?_)
  have h := h s_10 h_s_10
  exact k_vret hC (pc := 31) hQ hr dX6_init_31 h
theorem ct_X6_init {l : Launch} {G : Gx} {a : Ax} {s : Sx} {N : Nat} {post : Sx → Prop} (p0 : Nat) (x1 : Int32) (x2 : Int32) (x3 : Int32) (x4 : Int32) (x5 : Int32) (h : w_X6_init N p0 x1 x2 x3 x4 x5 s post) : Met l yX6_init (Cond.code yX6_init cX6_init 6 none :: gw) { frames := 1, cells := 0, slots := 0, locals := 20 } (va_Pc [.ref (adr G a 1 p0), .int x1, .int x2, .int x3, .int x4, .int x5] (fun U => FU G a s U)) (Qv G a post) 0 0 (bs_ G) := met_of (plainFor_of_name (by decide)) (Nat.le_of_ble_eq_true rfl) rfl (fun X hC hl hR hQ hr hG hn => by subst hG; exact b_X6_init hC hR hQ hr hn s p0 x1 x2 x3 x4 x5 h)
theorem ca_X6_init : Ca yX6_init cX6_init 6 none 5 := ⟨cd_X6_init, ii_RX6, by decide, by decide, by decide +kernel⟩
def w_X6_holdsOn (N : Nat) (p0 : Nat) (x1 : Int32) (s : Sx) (post : Int32 → Sx → Prop) : Prop := p0 < s.2.2 0 ∧ p0 < s.2.2 0 ∧ w_X11_isWithin N x1 (s.1 1 p0 3) (s.1 1 p0 4) s (fun r_4 s_3 => (r_4 = 0 ∨ r_4 = 1) ∧ post r_4 s_3)
set_option maxHeartbeats 4000000 in
theorem b_X6_holdsOn {X : Kx} {a : Ax} {N : Nat} {post : Int32 → Sx → Prop} (hC : Cx X cX6_holdsOn 2 RX6) (hR : X.R = { frames := 1, cells := 0, slots := 0, locals := 22 }) (hQ : X.Q = MQ X.below (Qi X.G a post) X.av X.s 0 0 (bs_ X.G)) (hr : X.meth.sig.returnType = (some .boolean)) (hn : X.meth.name = "holdsOn") (s : Sx) (p0 : Nat) (x1 : Int32) (h : w_X6_holdsOn N p0 x1 s post) : wk X a s 2 0 [(0, .ref (adr X.G a 1 p0)), (1, .int x1)] [] 0 0 := by
  unfold w_X6_holdsOn at h
  refine k_iload_n hC (pc := 0) dX6_holdsOn_0 1 rfl ?_
  refine k_aload_n hC (pc := 1) dX6_holdsOn_1 0 rfl ?_
  obtain ⟨c_1, h⟩ := h
  refine gf_X6_3 hC (pc := 2) c_1 fl_RX6_19 dX6_holdsOn_2 ?_
  refine k_aload_n hC (pc := 5) dX6_holdsOn_5 0 rfl ?_
  obtain ⟨c_2, h⟩ := h
  refine gf_X6_4 hC (pc := 6) c_2 fl_RX6_22 dX6_holdsOn_6 ?_
  refine k_ci (rn_SN hC (pc := 9) (As := [.int x1, .int (s.1 1 p0 3), .int (s.1 1 p0 4)]) (rest := []) ca_X11_isWithin nl_RX6_25 sm_X11_isWithin (ct_X11_isWithin x1 (s.1 1 p0 3) (s.1 1 p0 4) h) (by rw [hR]; exact ⟨rfl, rfl, by decide, by decide⟩) rfl (Nat.le_of_ble_eq_true rfl) dX6_holdsOn_9 ⟨by rw [hR]; decide, by rw [hR]; decide⟩) (fun r_4 s_3 h => ?_)
  obtain ⟨c_5, h⟩ := h
  exact k_zret hC (pc := 12) hQ hr dX6_holdsOn_12 c_5 h
theorem ct_X6_holdsOn {l : Launch} {G : Gx} {a : Ax} {s : Sx} {N : Nat} {post : Int32 → Sx → Prop} (p0 : Nat) (x1 : Int32) (h : w_X6_holdsOn N p0 x1 s post) : Met l yX6_holdsOn (Cond.code yX6_holdsOn cX6_holdsOn 2 (some .boolean) :: gw) { frames := 1, cells := 0, slots := 0, locals := 22 } (va_Pc [.ref (adr G a 1 p0), .int x1] (fun U => FU G a s U)) (Qi G a post) 0 0 (bs_ G) := met_of (plainFor_of_name (by decide)) (Nat.le_of_ble_eq_true rfl) rfl (fun X hC hl hR hQ hr hG hn => by subst hG; exact b_X6_holdsOn hC hR hQ hr hn s p0 x1 h)
theorem ca_X6_holdsOn : Ca yX6_holdsOn cX6_holdsOn 2 (some .boolean) 1 := ⟨cd_X6_holdsOn, ii_RX6, by decide, by decide, by decide +kernel⟩
def w_X7_renew (N : Nat) (k0 : Nat) (x1 : Int32) (x2 : Int32) (s : Sx) (post : Sx → Prop) : Prop := k0 < 4 ∧ w_J7_fill_53178 N (46 + k0) 60 0 s (fun s_1 => ∀ s_2, s_2 = setI s_1 0 (42 + k0) 1 x1 → ∀ s_3, s_3 = setI s_2 0 (42 + k0) 2 x2 → post s_3)
set_option maxHeartbeats 4000000 in
theorem b_X7_renew {X : Kx} {a : Ax} {N : Nat} {post : Sx → Prop} (hC : Cx X cX7_renew 3 RX7) (hR : X.R = { frames := 1, cells := 0, slots := 0, locals := 23 }) (hQ : X.Q = MQ X.below (Qv X.G a post) X.av X.s 0 0 (bs_ X.G)) (hr : X.meth.sig.returnType = none) (hn : X.meth.name = "renew") (s : Sx) (k0 : Nat) (x1 : Int32) (x2 : Int32) (h : w_X7_renew N k0 x1 x2 s post) : wk X a s 3 0 [(0, .ref (adr X.G a 0 (42 + k0))), (1, .int x1), (2, .int x2)] [] 0 0 := by
  unfold w_X7_renew at h
  obtain ⟨hk0, h⟩ := h
  refine k_aload_n hC (pc := 0) dX7_renew_0 0 rfl ?_
  refine gf_X7_0 hC (pc := 1) hk0 fl_RX7_11 dX7_renew_1 ?_
  refine k_iconst hC (pc := 4) (v := 0) dX7_renew_4 ic_0 ?_
  refine k_cv (rn_S hC (pc := 5) (As := [.ref (adr X.G a 0 (46 + k0)), .int 0]) (rest := []) ca_J7_fill_53178 ml_RX7_19 sm_J7_fill_53178 (ct_J7_fill_53178 (46 + k0) 60 0 (ia_sc hk0) h) (by rw [hR]; exact ⟨rfl, rfl, by decide, by decide⟩) rfl (Nat.le_of_ble_eq_true rfl) dX7_renew_5 ⟨by rw [hR]; decide, by rw [hR]; decide⟩) (fun s_1 h => ?_)
  refine k_aload_n hC (pc := 8) dX7_renew_8 0 rfl ?_
  refine k_iload_n hC (pc := 9) dX7_renew_9 1 rfl ?_
  refine pf_X7_1 hC (pc := 10) hk0 fl_RX7_15 dX7_renew_10 (fun s_2 h_s_2 => ?_)
  have h := h s_2 h_s_2
  refine k_aload_n hC (pc := 13) dX7_renew_13 0 rfl ?_
  refine k_iload_n hC (pc := 14) dX7_renew_14 2 rfl ?_
  refine pf_X7_2 hC (pc := 15) hk0 fl_RX7_25 dX7_renew_15 (fun s_3 h_s_3 => ?_)
  have h := h s_3 h_s_3
  exact k_vret hC (pc := 18) hQ hr dX7_renew_18 h
theorem ct_X7_renew {l : Launch} {G : Gx} {a : Ax} {s : Sx} {N : Nat} {post : Sx → Prop} (k0 : Nat) (x1 : Int32) (x2 : Int32) (h : w_X7_renew N k0 x1 x2 s post) : Met l yX7_renew (Cond.code yX7_renew cX7_renew 3 none :: gw) { frames := 1, cells := 0, slots := 0, locals := 23 } (va_Pc [.ref (adr G a 0 (42 + k0)), .int x1, .int x2] (fun U => FU G a s U)) (Qv G a post) 0 0 (bs_ G) := met_of (plainFor_of_name (by decide)) (Nat.le_of_ble_eq_true rfl) rfl (fun X hC hl hR hQ hr hG hn => by subst hG; exact b_X7_renew hC hR hQ hr hn s k0 x1 x2 h)
theorem ca_X7_renew : Ca yX7_renew cX7_renew 3 none 2 := ⟨cd_X7_renew, ii_RX7, by decide, by decide, by decide +kernel⟩
def w_X7_drop_13 (N : Nat) (k0 : Nat) (post : Int32 → Sx → Prop) (s : Sx) (z0 : Int32) : Prop := ∀ s_2, s_2 = setI s 0 (42 + k0) 1 ((-1)) → ∀ s_3, s_3 = setI s_2 0 (42 + k0) 2 0 → (z0 = 0 ∨ z0 = 1) ∧ post z0 s_3
def w_X7_drop (N : Nat) (k0 : Nat) (s : Sx) (post : Int32 → Sx → Prop) : Prop := k0 < 4 ∧ ((s.1 0 (42 + k0) 1) = ((-1)) → w_X7_drop_13 N k0 post s 0) ∧ (¬ ((s.1 0 (42 + k0) 1) = ((-1))) → w_X7_drop_13 N k0 post s 1)
set_option maxHeartbeats 4000000 in
theorem b_X7_drop_13 {X : Kx} {a : Ax} {N : Nat} {k0 : Nat} {post : Int32 → Sx → Prop}  (hC : Cx X cX7_drop 2 RX7) (hR : X.R = { frames := 0, cells := 0, slots := 0, locals := 0 }) (hQ : X.Q = MQ X.below (Qi X.G a post) X.av X.s 0 0 (bs_ X.G)) (hr : X.meth.sig.returnType = (some .boolean)) (hk0 : k0 < 4)  (s : Sx) (z0 : Int32) (h : w_X7_drop_13 N k0 post  s z0) : wk X a s 2 13 [(0, .ref (adr X.G a 0 (42 + k0)))] [.int z0] 0 0 := by
  unfold w_X7_drop_13 at h
  refine k_istore_n hC (pc := 13) dX7_drop_13 [(1, .int z0), (0, .ref (adr X.G a 0 (42 + k0)))] (by decide) rfl ?_
  refine k_aload_n hC (pc := 14) dX7_drop_14 1 rfl ?_
  refine k_iconst hC (pc := 15) (v := (-1)) dX7_drop_15 ic_m1 ?_
  refine pf_X7_1 hC (pc := 16) hk0 fl_RX7_15 dX7_drop_16 (fun s_2 h_s_2 => ?_)
  have h := h s_2 h_s_2
  refine k_aload_n hC (pc := 19) dX7_drop_19 1 rfl ?_
  refine k_iconst hC (pc := 20) (v := 0) dX7_drop_20 ic_0 ?_
  refine pf_X7_2 hC (pc := 21) hk0 fl_RX7_25 dX7_drop_21 (fun s_3 h_s_3 => ?_)
  have h := h s_3 h_s_3
  refine k_iload_n hC (pc := 24) dX7_drop_24 0 rfl ?_
  obtain ⟨c_4, h⟩ := h
  exact k_zret hC (pc := 25) hQ hr dX7_drop_25 c_4 h
set_option maxHeartbeats 4000000 in
theorem b_X7_drop {X : Kx} {a : Ax} {N : Nat} {post : Int32 → Sx → Prop} (hC : Cx X cX7_drop 2 RX7) (hR : X.R = { frames := 0, cells := 0, slots := 0, locals := 0 }) (hQ : X.Q = MQ X.below (Qi X.G a post) X.av X.s 0 0 (bs_ X.G)) (hr : X.meth.sig.returnType = (some .boolean)) (hn : X.meth.name = "drop") (s : Sx) (k0 : Nat) (h : w_X7_drop N k0 s post) : wk X a s 2 0 [(0, .ref (adr X.G a 0 (42 + k0)))] [] 0 0 := by
  unfold w_X7_drop at h
  obtain ⟨hk0, h⟩ := h
  refine k_aload_n hC (pc := 0) dX7_drop_0 0 rfl ?_
  refine gf_X7_1 hC (pc := 1) hk0 fl_RX7_15 dX7_drop_1 ?_
  refine k_iconst hC (pc := 4) (v := (-1)) dX7_drop_4 ic_m1 ?_
  refine k_icmp_eq hC (pc := 5) 12 dX7_drop_5 (by decide) (fun c_1 => ?_) (fun c_1 => ?_)
  · have h := h.1 c_1
    refine k_iconst hC (pc := 12) (v := 0) dX7_drop_12 ic_0 ?_
    exact b_X7_drop_13 hC hR hQ hr hk0 _ _ h
  · have h := h.2 c_1
    refine k_iconst hC (pc := 8) (v := 1) dX7_drop_8 ic_1 ?_
    refine k_goto hC (pc := 9) 13 dX7_drop_9 (by decide) ?_
    exact b_X7_drop_13 hC hR hQ hr hk0 _ _ h
theorem ct_X7_drop {l : Launch} {G : Gx} {a : Ax} {s : Sx} {N : Nat} {post : Int32 → Sx → Prop} (k0 : Nat) (h : w_X7_drop N k0 s post) : Met l yX7_drop (Cond.code yX7_drop cX7_drop 2 (some .boolean) :: gw) { frames := 0, cells := 0, slots := 0, locals := 0 } (va_Pc [.ref (adr G a 0 (42 + k0))] (fun U => FU G a s U)) (Qi G a post) 0 0 (bs_ G) := met_of (plainFor_of_name (by decide)) (Nat.le_of_ble_eq_true rfl) rfl (fun X hC hl hR hQ hr hG hn => by subst hG; exact b_X7_drop hC hR hQ hr hn s k0 h)
theorem ca_X7_drop : Ca yX7_drop cX7_drop 2 (some .boolean) 0 := ⟨cd_X7_drop, ii_RX7, by decide, by decide, by decide +kernel⟩
def w_X7_faultOf (N : Nat) (k0 : Nat) (x1 : Int32) (x2 : Int32) (x3 : Int32) (s : Sx) (post : Int32 → Sx → Prop) : Prop := k0 < 4 ∧ (¬ (s.1 0 (42 + k0) 1) = ((-1)) → ((s.1 0 (42 + k0) 1) = x1 → (0 ≤ x3 → w_X11_isWithin N x2 0 (s.1 0 (42 + k0) 2) s (fun r_5 s_4 => (r_5 = 0 → post 3 s_4) ∧ (¬ (r_5 = 0) → (((s_4.1 0 (42 + k0) 2) - x2) < x3 → post 3 s_4) ∧ (¬ (((s_4.1 0 (42 + k0) 2) - x2) < x3) → post 0 s_4)))) ∧ (¬ (0 ≤ x3) → post 4 s)) ∧ (¬ ((s.1 0 (42 + k0) 1) = x1) → post 2 s)) ∧ (¬ (¬ (s.1 0 (42 + k0) 1) = ((-1))) → post 1 s)
set_option maxHeartbeats 4000000 in
theorem b_X7_faultOf {X : Kx} {a : Ax} {N : Nat} {post : Int32 → Sx → Prop} (hC : Cx X cX7_faultOf 4 RX7) (hR : X.R = { frames := 1, cells := 0, slots := 0, locals := 22 }) (hQ : X.Q = MQ X.below (Qi X.G a post) X.av X.s 0 0 (bs_ X.G)) (hr : X.meth.sig.returnType = (some .int)) (hn : X.meth.name = "faultOf") (s : Sx) (k0 : Nat) (x1 : Int32) (x2 : Int32) (x3 : Int32) (h : w_X7_faultOf N k0 x1 x2 x3 s post) : wk X a s 4 0 [(0, .ref (adr X.G a 0 (42 + k0))), (1, .int x1), (2, .int x2), (3, .int x3)] [] 0 0 := by
  unfold w_X7_faultOf at h
  obtain ⟨hk0, h⟩ := h
  refine k_aload_n hC (pc := 0) dX7_faultOf_0 0 rfl ?_
  refine gf_X7_1 hC (pc := 1) hk0 fl_RX7_15 dX7_faultOf_1 ?_
  refine k_iconst hC (pc := 4) (v := (-1)) dX7_faultOf_4 ic_m1 ?_
  refine k_icmp_ne hC (pc := 5) 10 dX7_faultOf_5 (by decide) (fun c_1 => ?_) (fun c_1 => ?_)
  · have h := h.1 c_1
    refine k_aload_n hC (pc := 10) dX7_faultOf_10 0 rfl ?_
    refine gf_X7_1 hC (pc := 11) hk0 fl_RX7_15 dX7_faultOf_11 ?_
    refine k_iload_n hC (pc := 14) dX7_faultOf_14 1 rfl ?_
    refine k_icmp_eq hC (pc := 15) 20 dX7_faultOf_15 (by decide) (fun c_2 => ?_) (fun c_2 => ?_)
    · have h := h.1 c_2
      refine k_iload_n hC (pc := 20) dX7_faultOf_20 3 rfl ?_
      refine k_if_ge hC (pc := 21) 26 dX7_faultOf_21 (by decide) (fun c_3 => ?_) (fun c_3 => ?_)
      · have h := h.1 c_3
        refine k_iload_n hC (pc := 26) dX7_faultOf_26 2 rfl ?_
        refine k_iconst hC (pc := 27) (v := 0) dX7_faultOf_27 ic_0 ?_
        refine k_aload_n hC (pc := 28) dX7_faultOf_28 0 rfl ?_
        refine gf_X7_2 hC (pc := 29) hk0 fl_RX7_25 dX7_faultOf_29 ?_
        refine k_ci (rn_SN hC (pc := 32) (As := [.int x2, .int 0, .int (s.1 0 (42 + k0) 2)]) (rest := []) ca_X11_isWithin nl_RX7_28 sm_X11_isWithin (ct_X11_isWithin x2 0 (s.1 0 (42 + k0) 2) h) (by rw [hR]; exact ⟨rfl, rfl, by decide, by decide⟩) rfl (Nat.le_of_ble_eq_true rfl) dX7_faultOf_32 ⟨by rw [hR]; decide, by rw [hR]; decide⟩) (fun r_5 s_4 h => ?_)
        refine k_if_eq hC (pc := 35) 52 dX7_faultOf_35 (by decide) (fun c_6 => ?_) (fun c_6 => ?_)
        · have h := h.1 c_6
          refine k_iconst hC (pc := 52) (v := 3) dX7_faultOf_52 ic_3 ?_
          exact k_iret hC (pc := 53) hQ hr dX7_faultOf_53 h
        · have h := h.2 c_6
          refine k_iload_n hC (pc := 38) dX7_faultOf_38 3 rfl ?_
          refine k_aload_n hC (pc := 39) dX7_faultOf_39 0 rfl ?_
          refine gf_X7_2 hC (pc := 40) hk0 fl_RX7_25 dX7_faultOf_40 ?_
          refine k_iload_n hC (pc := 43) dX7_faultOf_43 2 rfl ?_
          refine k_isub hC (pc := 44) dX7_faultOf_44 ?_
          refine k_icmp_gt hC (pc := 45) 52 dX7_faultOf_45 (by decide) (fun c_7 => ?_) (fun c_7 => ?_)
          · have h := h.1 c_7
            refine k_iconst hC (pc := 52) (v := 3) dX7_faultOf_52 ic_3 ?_
            exact k_iret hC (pc := 53) hQ hr dX7_faultOf_53 h
          · have h := h.2 c_7
            refine k_iconst hC (pc := 48) (v := 0) dX7_faultOf_48 ic_0 ?_
            refine k_goto hC (pc := 49) 53 dX7_faultOf_49 (by decide) ?_
            exact k_iret hC (pc := 53) hQ hr dX7_faultOf_53 h
      · have h := h.2 c_3
        refine k_iconst hC (pc := 24) (v := 4) dX7_faultOf_24 ic_4 ?_
        exact k_iret hC (pc := 25) hQ hr dX7_faultOf_25 h
    · have h := h.2 c_2
      refine k_iconst hC (pc := 18) (v := 2) dX7_faultOf_18 ic_2 ?_
      exact k_iret hC (pc := 19) hQ hr dX7_faultOf_19 h
  · have h := h.2 c_1
    refine k_iconst hC (pc := 8) (v := 1) dX7_faultOf_8 ic_1 ?_
    exact k_iret hC (pc := 9) hQ hr dX7_faultOf_9 h
theorem ct_X7_faultOf {l : Launch} {G : Gx} {a : Ax} {s : Sx} {N : Nat} {post : Int32 → Sx → Prop} (k0 : Nat) (x1 : Int32) (x2 : Int32) (x3 : Int32) (h : w_X7_faultOf N k0 x1 x2 x3 s post) : Met l yX7_faultOf (Cond.code yX7_faultOf cX7_faultOf 4 (some .int) :: gw) { frames := 1, cells := 0, slots := 0, locals := 22 } (va_Pc [.ref (adr G a 0 (42 + k0)), .int x1, .int x2, .int x3] (fun U => FU G a s U)) (Qi G a post) 0 0 (bs_ G) := met_of (plainFor_of_name (by decide)) (Nat.le_of_ble_eq_true rfl) rfl (fun X hC hl hR hQ hr hG hn => by subst hG; exact b_X7_faultOf hC hR hQ hr hn s k0 x1 x2 x3 h)
theorem ca_X7_faultOf : Ca yX7_faultOf cX7_faultOf 4 (some .int) 3 := ⟨cd_X7_faultOf, ii_RX7, by decide, by decide, by decide +kernel⟩
def w_X7_cutToLane (N : Nat) (k0 : Nat) (x1 : Int32) (s : Sx) (post : Int32 → Sx → Prop) : Prop := k0 < 4 ∧ ∀ x_1 : Int32, x_1 = s.1 0 (42 + k0) 1 → (x_1 = 0 → post x1.toInt8.toInt32 s) ∧ (¬ (x_1 = 0) → (x_1 = 1 → post x1.toInt16.toInt32 s) ∧ (¬ (x_1 = 1) → post x1 s))
set_option maxHeartbeats 4000000 in
theorem b_X7_cutToLane {X : Kx} {a : Ax} {N : Nat} {post : Int32 → Sx → Prop} (hC : Cx X cX7_cutToLane 2 RX7) (hR : X.R = { frames := 0, cells := 0, slots := 0, locals := 0 }) (hQ : X.Q = MQ X.below (Qi X.G a post) X.av X.s 0 0 (bs_ X.G)) (hr : X.meth.sig.returnType = (some .int)) (hn : X.meth.name = "cutToLane") (s : Sx) (k0 : Nat) (x1 : Int32) (h : w_X7_cutToLane N k0 x1 s post) : wk X a s 2 0 [(0, .ref (adr X.G a 0 (42 + k0))), (1, .int x1)] [] 0 0 := by
  unfold w_X7_cutToLane at h
  obtain ⟨hk0, h⟩ := h
  refine k_aload_n hC (pc := 0) dX7_cutToLane_0 0 rfl ?_
  refine gf_X7_1 hC (pc := 1) hk0 fl_RX7_15 dX7_cutToLane_1 ?_
  refine k_topi (fun x_1 h_x_1 => ?_)
  have h := h x_1 h_x_1
  by_cases c_2 : x_1 = 0
  · have h := h.1 c_2
    refine k_ls hC (pc := 4) (x := x_1) 32 dX7_cutToLane_4 (by decide) (by rw [c_2]) (by decide) ?_
    refine k_iload_n hC (pc := 32) dX7_cutToLane_32 1 rfl ?_
    refine k_i2b hC (pc := 33) dX7_cutToLane_33 ?_
    exact k_iret hC (pc := 34) hQ hr dX7_cutToLane_34 h
  · have h := h.2 c_2
    by_cases c_3 : x_1 = 1
    · have h := h.1 c_3
      refine k_ls hC (pc := 4) (x := x_1) 35 dX7_cutToLane_4 (by decide) (by rw [c_3]) (by decide) ?_
      refine k_iload_n hC (pc := 35) dX7_cutToLane_35 1 rfl ?_
      refine k_i2s hC (pc := 36) dX7_cutToLane_36 ?_
      exact k_iret hC (pc := 37) hQ hr dX7_cutToLane_37 h
    · have h := h.2 c_3
      refine k_ls hC (pc := 4) (x := x_1) 38 dX7_cutToLane_4 (by decide) (ls_outG c_2 c_3) (by decide) ?_
      refine k_iload_n hC (pc := 38) dX7_cutToLane_38 1 rfl ?_
      exact k_iret hC (pc := 39) hQ hr dX7_cutToLane_39 h
theorem ct_X7_cutToLane {l : Launch} {G : Gx} {a : Ax} {s : Sx} {N : Nat} {post : Int32 → Sx → Prop} (k0 : Nat) (x1 : Int32) (h : w_X7_cutToLane N k0 x1 s post) : Met l yX7_cutToLane (Cond.code yX7_cutToLane cX7_cutToLane 2 (some .int) :: gw) { frames := 0, cells := 0, slots := 0, locals := 0 } (va_Pc [.ref (adr G a 0 (42 + k0)), .int x1] (fun U => FU G a s U)) (Qi G a post) 0 0 (bs_ G) := met_of (plainFor_of_name (by decide)) (Nat.le_of_ble_eq_true rfl) rfl (fun X hC hl hR hQ hr hG hn => by subst hG; exact b_X7_cutToLane hC hR hQ hr hn s k0 x1 h)
theorem ca_X7_cutToLane : Ca yX7_cutToLane cX7_cutToLane 2 (some .int) 1 := ⟨cd_X7_cutToLane, ii_RX7, by decide, by decide, by decide +kernel⟩
def w_X7_write (N : Nat) (k0 : Nat) (x1 : Int32) (x2 : Int32) (s : Sx) (post : Sx → Prop) : Prop := k0 < 4 ∧ w_X11_isWithin N x1 0 59 s (fun r_2 s_1 => (r_2 = 0 → post s_1) ∧ (¬ (r_2 = 0) → w_X7_cutToLane N k0 x2 s_1 (fun r_5 s_4 => vp_in x1 60 ∧ ∀ s_7, s_7 = setI s_4 0 (46 + k0) x1.toNatClampNeg r_5 → post s_7)))
set_option maxHeartbeats 4000000 in
theorem b_X7_write {X : Kx} {a : Ax} {N : Nat} {post : Sx → Prop} (hC : Cx X cX7_write 3 RX7) (hR : X.R = { frames := 1, cells := 0, slots := 0, locals := 22 }) (hQ : X.Q = MQ X.below (Qv X.G a post) X.av X.s 0 0 (bs_ X.G)) (hr : X.meth.sig.returnType = none) (hn : X.meth.name = "write") (s : Sx) (k0 : Nat) (x1 : Int32) (x2 : Int32) (h : w_X7_write N k0 x1 x2 s post) : wk X a s 3 0 [(0, .ref (adr X.G a 0 (42 + k0))), (1, .int x1), (2, .int x2)] [] 0 0 := by
  unfold w_X7_write at h
  obtain ⟨hk0, h⟩ := h
  refine k_iload_n hC (pc := 0) dX7_write_0 1 rfl ?_
  refine k_iconst hC (pc := 1) (v := 0) dX7_write_1 ic_0 ?_
  refine k_bipush hC (pc := 2) (v := 59) dX7_write_2 bp_59 ?_
  refine k_ci (rn_SN hC (pc := 4) (As := [.int x1, .int 0, .int 59]) (rest := []) ca_X11_isWithin nl_RX7_28 sm_X11_isWithin (ct_X11_isWithin x1 0 59 h) (by rw [hR]; exact ⟨rfl, rfl, by decide, by decide⟩) rfl (Nat.le_of_ble_eq_true rfl) dX7_write_4 ⟨by rw [hR]; decide, by rw [hR]; decide⟩) (fun r_2 s_1 h => ?_)
  refine k_if_eq hC (pc := 7) 21 dX7_write_7 (by decide) (fun c_3 => ?_) (fun c_3 => ?_)
  · have h := h.1 c_3
    exact k_vret hC (pc := 21) hQ hr dX7_write_21 h
  · have h := h.2 c_3
    refine k_aload_n hC (pc := 10) dX7_write_10 0 rfl ?_
    refine gf_X7_0 hC (pc := 11) hk0 fl_RX7_11 dX7_write_11 ?_
    refine k_iload_n hC (pc := 14) dX7_write_14 1 rfl ?_
    refine k_aload_n hC (pc := 15) dX7_write_15 0 rfl ?_
    refine k_iload_n hC (pc := 16) dX7_write_16 2 rfl ?_
    refine k_ci (rn_V hC (pc := 17) (As := [.int x2]) (rest := [.int x1, .ref (adr X.G a 0 (46 + k0))]) ca_X7_cutToLane ml_RX7_32 im_X7_cutToLane se_X7_cutToLane (fx_in (sh_f hk0)) (sh_o hk0 _ _ _ _ _) rfl rfl (ct_X7_cutToLane k0 x2 h) (by rw [hR]; exact ⟨rfl, rfl, by decide, by decide⟩) rfl (Nat.le_of_ble_eq_true rfl) dX7_write_17 ⟨by rw [hR]; decide, by rw [hR]; decide⟩) (fun r_5 s_4 h => ?_)
    obtain ⟨c_6, h⟩ := h
    refine r_iast hC (pc := 20) (ia_sc hk0) c_6 dX7_write_20 (fun s_7 h_s_7 => ?_)
    have h := h s_7 h_s_7
    exact k_vret hC (pc := 21) hQ hr dX7_write_21 h
theorem ct_X7_write {l : Launch} {G : Gx} {a : Ax} {s : Sx} {N : Nat} {post : Sx → Prop} (k0 : Nat) (x1 : Int32) (x2 : Int32) (h : w_X7_write N k0 x1 x2 s post) : Met l yX7_write (Cond.code yX7_write cX7_write 3 none :: gw) { frames := 1, cells := 0, slots := 0, locals := 22 } (va_Pc [.ref (adr G a 0 (42 + k0)), .int x1, .int x2] (fun U => FU G a s U)) (Qv G a post) 0 0 (bs_ G) := met_of (plainFor_of_name (by decide)) (Nat.le_of_ble_eq_true rfl) rfl (fun X hC hl hR hQ hr hG hn => by subst hG; exact b_X7_write hC hR hQ hr hn s k0 x1 x2 h)
theorem ca_X7_write : Ca yX7_write cX7_write 3 none 2 := ⟨cd_X7_write, ii_RX7, by decide, by decide, by decide +kernel⟩
def w_X7_areWithin_3 (N : Nat) (k0 : Nat) (post : Int32 → Sx → Prop) : Nat → Sx → Int32 → Int32 → Int32 → Int32 → Prop
  | 0, _, _, _, _, _ => False
  | n + 1, s, x1, x2, x3, x4 => (x2 ≤ x4 → post 1 s) ∧ (¬ (x2 ≤ x4) → w_X7_read N k0 (x1 + x4) s (fun r_3 s_2 => w_X11_isWithin N r_3 0 x3 s_2 (fun r_5 s_4 => (¬ r_5 = 0 → ∀ x_7 : Int32, x_7 = x4 + 1 → w_X7_areWithin_3 N k0 post n s_4 x1 x2 x3 x_7) ∧ (¬ (¬ r_5 = 0) → post 0 s_4))))
def w_X7_areWithin (N : Nat) (k0 : Nat) (x1 : Int32) (x2 : Int32) (x3 : Int32) (s : Sx) (post : Int32 → Sx → Prop) : Prop := k0 < 4 ∧ w_X7_areWithin_3 N k0 post N s x1 x2 x3 0
set_option maxHeartbeats 4000000 in
theorem b_X7_areWithin_3 {X : Kx} {a : Ax} {N : Nat} {k0 : Nat} {post : Int32 → Sx → Prop}  (hC : Cx X cX7_areWithin 5 RX7) (hR : X.R = { frames := 2, cells := 0, slots := 0, locals := 43 }) (hQ : X.Q = MQ X.below (Qi X.G a post) X.av X.s 0 0 (bs_ X.G)) (hr : X.meth.sig.returnType = (some .boolean)) (hk0 : k0 < 4)  : ∀ (n : Nat) (s : Sx) (x1 : Int32) (x2 : Int32) (x3 : Int32) (x4 : Int32), w_X7_areWithin_3 N k0 post  n s x1 x2 x3 x4 → wk X a s 5 3 [(0, .ref (adr X.G a 0 (42 + k0))), (1, .int x1), (2, .int x2), (3, .int x3), (4, .int x4)] [] 0 0 := by
  intro n
  induction n with
  | zero => intro s x1 x2 x3 x4 h; exact h.elim
  | succ n ih =>
    intro s x1 x2 x3 x4 h
    unfold w_X7_areWithin_3 at h
    refine k_iload hC (pc := 3) dX7_areWithin_3 4 rfl ?_
    refine k_iload_n hC (pc := 5) dX7_areWithin_5 2 rfl ?_
    refine k_icmp_ge hC (pc := 6) 33 dX7_areWithin_6 (by decide) (fun c_1 => ?_) (fun c_1 => ?_)
    · have h := h.1 c_1
      refine k_iconst hC (pc := 33) (v := 1) dX7_areWithin_33 ic_1 ?_
      exact k_zret hC (pc := 34) hQ hr dX7_areWithin_34 (Or.inr rfl) h
    · have h := h.2 c_1
      refine k_aload_n hC (pc := 9) dX7_areWithin_9 0 rfl ?_
      refine k_iload_n hC (pc := 10) dX7_areWithin_10 1 rfl ?_
      refine k_iload hC (pc := 11) dX7_areWithin_11 4 rfl ?_
      refine k_iadd hC (pc := 13) dX7_areWithin_13 ?_
      refine k_ci (rn_V hC (pc := 14) (As := [.int (x1 + x4)]) (rest := []) ca_X7_read ml_RX7_36 im_X7_read se_X7_read (fx_in (sh_f hk0)) (sh_o hk0 _ _ _ _ _) rfl rfl (ct_X7_read k0 (x1 + x4) h) (by rw [hR]; exact ⟨rfl, rfl, by decide, by decide⟩) rfl (Nat.le_of_ble_eq_true rfl) dX7_areWithin_14 ⟨by rw [hR]; decide, by rw [hR]; decide⟩) (fun r_3 s_2 h => ?_)
      refine k_iconst hC (pc := 17) (v := 0) dX7_areWithin_17 ic_0 ?_
      refine k_iload_n hC (pc := 18) dX7_areWithin_18 3 rfl ?_
      refine k_ci (rn_SN hC (pc := 19) (As := [.int r_3, .int 0, .int x3]) (rest := []) ca_X11_isWithin nl_RX7_28 sm_X11_isWithin (ct_X11_isWithin r_3 0 x3 h) (by rw [hR]; exact ⟨rfl, rfl, by decide, by decide⟩) rfl (Nat.le_of_ble_eq_true rfl) dX7_areWithin_19 ⟨by rw [hR]; decide, by rw [hR]; decide⟩) (fun r_5 s_4 h => ?_)
      refine k_if_ne hC (pc := 22) 27 dX7_areWithin_22 (by decide) (fun c_6 => ?_) (fun c_6 => ?_)
      · have h := h.1 c_6
        obtain ⟨x_7, h_x_7⟩ : ∃ z : Int32, z = x4 + 1 := ⟨_, rfl⟩
        have h := h x_7 h_x_7
        refine k_iincw hC (pc := 27) dX7_areWithin_27 4 rfl ic_1 h_x_7.symm [(4, .int x_7), (0, .ref (adr X.G a 0 (42 + k0))), (1, .int x1), (2, .int x2), (3, .int x3)] (by decide) rfl ?_
        refine k_goto hC (pc := 30) 3 dX7_areWithin_30 (by decide) ?_
        refine k_sub [(0, .ref (adr X.G a 0 (42 + k0))), (1, .int x1), (2, .int x2), (3, .int x3), (4, .int x_7)] [1, 2, 3, 4, 0] rfl ?_
        exact ih _ _ _ _ _ h
      · have h := h.2 c_6
        refine k_iconst hC (pc := 25) (v := 0) dX7_areWithin_25 ic_0 ?_
        exact k_zret hC (pc := 26) hQ hr dX7_areWithin_26 (Or.inl rfl) h
set_option maxHeartbeats 4000000 in
theorem b_X7_areWithin {X : Kx} {a : Ax} {N : Nat} {post : Int32 → Sx → Prop} (hC : Cx X cX7_areWithin 5 RX7) (hR : X.R = { frames := 2, cells := 0, slots := 0, locals := 43 }) (hQ : X.Q = MQ X.below (Qi X.G a post) X.av X.s 0 0 (bs_ X.G)) (hr : X.meth.sig.returnType = (some .boolean)) (hn : X.meth.name = "areWithin") (s : Sx) (k0 : Nat) (x1 : Int32) (x2 : Int32) (x3 : Int32) (h : w_X7_areWithin N k0 x1 x2 x3 s post) : wk X a s 5 0 [(0, .ref (adr X.G a 0 (42 + k0))), (1, .int x1), (2, .int x2), (3, .int x3)] [] 0 0 := by
  unfold w_X7_areWithin at h
  obtain ⟨hk0, h⟩ := h
  refine k_iconst hC (pc := 0) (v := 0) dX7_areWithin_0 ic_0 ?_
  refine k_istore hC (pc := 1) dX7_areWithin_1 [(4, .int 0), (0, .ref (adr X.G a 0 (42 + k0))), (1, .int x1), (2, .int x2), (3, .int x3)] (by decide) rfl ?_
  refine k_sub [(0, .ref (adr X.G a 0 (42 + k0))), (1, .int x1), (2, .int x2), (3, .int x3), (4, .int 0)] [1, 2, 3, 4, 0] rfl ?_
  exact b_X7_areWithin_3 hC hR hQ hr hk0 N _ _ _ _ _ h
theorem ct_X7_areWithin {l : Launch} {G : Gx} {a : Ax} {s : Sx} {N : Nat} {post : Int32 → Sx → Prop} (k0 : Nat) (x1 : Int32) (x2 : Int32) (x3 : Int32) (h : w_X7_areWithin N k0 x1 x2 x3 s post) : Met l yX7_areWithin (Cond.code yX7_areWithin cX7_areWithin 5 (some .boolean) :: gw) { frames := 2, cells := 0, slots := 0, locals := 43 } (va_Pc [.ref (adr G a 0 (42 + k0)), .int x1, .int x2, .int x3] (fun U => FU G a s U)) (Qi G a post) 0 0 (bs_ G) := met_of (plainFor_of_name (by decide)) (Nat.le_of_ble_eq_true rfl) rfl (fun X hC hl hR hQ hr hG hn => by subst hG; exact b_X7_areWithin hC hR hQ hr hn s k0 x1 x2 x3 h)
theorem ca_X7_areWithin : Ca yX7_areWithin cX7_areWithin 5 (some .boolean) 3 := ⟨cd_X7_areWithin, ii_RX7, by decide, by decide, by decide +kernel⟩
def w_X7_copyTo_3 (N : Nat) (k0 : Nat) (c1 : Nat) (n1 : Nat) (post : Sx → Prop) : Nat → Sx → Int32 → Int32 → Int32 → Prop
  | 0, _, _, _, _ => False
  | n + 1, s, x2, x3, x4 => (x3 ≤ x4 → post s) ∧ (¬ (x3 ≤ x4) → ((nI n1) ≤ x4 → post s) ∧ (¬ ((nI n1) ≤ x4) → w_X7_read N k0 (x2 + x4) s (fun r_4 s_3 => vp_in x4 n1 ∧ ∀ s_6, s_6 = setI s_3 0 c1 x4.toNatClampNeg r_4 → ∀ x_7 : Int32, x_7 = x4 + 1 → w_X7_copyTo_3 N k0 c1 n1 post n s_6 x2 x3 x_7)))
def w_X7_copyTo (N : Nat) (k0 : Nat) (c1 : Nat) (n1 : Nat) (x2 : Int32) (x3 : Int32) (s : Sx) (post : Sx → Prop) : Prop := k0 < 4 ∧ w_X7_copyTo_3 N k0 c1 n1 post N s x2 x3 0
set_option maxHeartbeats 4000000 in
theorem b_X7_copyTo_3 {X : Kx} {a : Ax} {N : Nat} {k0 : Nat} {c1 : Nat} {n1 : Nat} {post : Sx → Prop}  (hC : Cx X cX7_copyTo 5 RX7) (hR : X.R = { frames := 2, cells := 0, slots := 0, locals := 43 }) (hQ : X.Q = MQ X.below (Qv X.G a post) X.av X.s 0 0 (bs_ X.G)) (hr : X.meth.sig.returnType = none) (hk0 : k0 < 4) (hc1 : IA 0 c1 n1)  : ∀ (n : Nat) (s : Sx) (x2 : Int32) (x3 : Int32) (x4 : Int32), w_X7_copyTo_3 N k0 c1 n1 post  n s x2 x3 x4 → wk X a s 5 3 [(0, .ref (adr X.G a 0 (42 + k0))), (1, .ref (adr X.G a 0 c1)), (2, .int x2), (3, .int x3), (4, .int x4)] [] 0 0 := by
  intro n
  induction n with
  | zero => intro s x2 x3 x4 h; exact h.elim
  | succ n ih =>
    intro s x2 x3 x4 h
    unfold w_X7_copyTo_3 at h
    refine k_iload hC (pc := 3) dX7_copyTo_3 4 rfl ?_
    refine k_iload_n hC (pc := 5) dX7_copyTo_5 3 rfl ?_
    refine k_icmp_ge hC (pc := 6) 34 dX7_copyTo_6 (by decide) (fun c_1 => ?_) (fun c_1 => ?_)
    · have h := h.1 c_1
      exact k_vret hC (pc := 34) hQ hr dX7_copyTo_34 h
    · have h := h.2 c_1
      refine k_iload hC (pc := 9) dX7_copyTo_9 4 rfl ?_
      refine k_aload_n hC (pc := 11) dX7_copyTo_11 1 rfl ?_
      refine r_alenI hC (pc := 12) hc1 rfl dX7_copyTo_12 ?_
      refine k_icmp_ge hC (pc := 13) 34 dX7_copyTo_13 (by decide) (fun c_2 => ?_) (fun c_2 => ?_)
      · have h := h.1 c_2
        exact k_vret hC (pc := 34) hQ hr dX7_copyTo_34 h
      · have h := h.2 c_2
        refine k_aload_n hC (pc := 16) dX7_copyTo_16 1 rfl ?_
        refine k_iload hC (pc := 17) dX7_copyTo_17 4 rfl ?_
        refine k_aload_n hC (pc := 19) dX7_copyTo_19 0 rfl ?_
        refine k_iload_n hC (pc := 20) dX7_copyTo_20 2 rfl ?_
        refine k_iload hC (pc := 21) dX7_copyTo_21 4 rfl ?_
        refine k_iadd hC (pc := 23) dX7_copyTo_23 ?_
        refine k_ci (rn_V hC (pc := 24) (As := [.int (x2 + x4)]) (rest := [.int x4, .ref (adr X.G a 0 c1)]) ca_X7_read ml_RX7_36 im_X7_read se_X7_read (fx_in (sh_f hk0)) (sh_o hk0 _ _ _ _ _) rfl rfl (ct_X7_read k0 (x2 + x4) h) (by rw [hR]; exact ⟨rfl, rfl, by decide, by decide⟩) rfl (Nat.le_of_ble_eq_true rfl) dX7_copyTo_24 ⟨by rw [hR]; decide, by rw [hR]; decide⟩) (fun r_4 s_3 h => ?_)
        obtain ⟨c_5, h⟩ := h
        refine r_iast hC (pc := 27) hc1 c_5 dX7_copyTo_27 (fun s_6 h_s_6 => ?_)
        have h := h s_6 h_s_6
        obtain ⟨x_7, h_x_7⟩ : ∃ z : Int32, z = x4 + 1 := ⟨_, rfl⟩
        have h := h x_7 h_x_7
        refine k_iincw hC (pc := 28) dX7_copyTo_28 4 rfl ic_1 h_x_7.symm [(4, .int x_7), (0, .ref (adr X.G a 0 (42 + k0))), (1, .ref (adr X.G a 0 c1)), (2, .int x2), (3, .int x3)] (by decide) rfl ?_
        refine k_goto hC (pc := 31) 3 dX7_copyTo_31 (by decide) ?_
        refine k_sub [(0, .ref (adr X.G a 0 (42 + k0))), (1, .ref (adr X.G a 0 c1)), (2, .int x2), (3, .int x3), (4, .int x_7)] [1, 2, 3, 4, 0] rfl ?_
        exact ih _ _ _ _ h
set_option maxHeartbeats 4000000 in
theorem b_X7_copyTo {X : Kx} {a : Ax} {N : Nat} {post : Sx → Prop} (hC : Cx X cX7_copyTo 5 RX7) (hR : X.R = { frames := 2, cells := 0, slots := 0, locals := 43 }) (hQ : X.Q = MQ X.below (Qv X.G a post) X.av X.s 0 0 (bs_ X.G)) (hr : X.meth.sig.returnType = none) (hn : X.meth.name = "copyTo") (s : Sx) (k0 : Nat) (c1 : Nat) (n1 : Nat) (x2 : Int32) (x3 : Int32) (hc1 : IA 0 c1 n1) (h : w_X7_copyTo N k0 c1 n1 x2 x3 s post) : wk X a s 5 0 [(0, .ref (adr X.G a 0 (42 + k0))), (1, .ref (adr X.G a 0 c1)), (2, .int x2), (3, .int x3)] [] 0 0 := by
  unfold w_X7_copyTo at h
  obtain ⟨hk0, h⟩ := h
  refine k_iconst hC (pc := 0) (v := 0) dX7_copyTo_0 ic_0 ?_
  refine k_istore hC (pc := 1) dX7_copyTo_1 [(4, .int 0), (0, .ref (adr X.G a 0 (42 + k0))), (1, .ref (adr X.G a 0 c1)), (2, .int x2), (3, .int x3)] (by decide) rfl ?_
  refine k_sub [(0, .ref (adr X.G a 0 (42 + k0))), (1, .ref (adr X.G a 0 c1)), (2, .int x2), (3, .int x3), (4, .int 0)] [1, 2, 3, 4, 0] rfl ?_
  exact b_X7_copyTo_3 hC hR hQ hr hk0 hc1 N _ _ _ _ h
theorem ct_X7_copyTo {l : Launch} {G : Gx} {a : Ax} {s : Sx} {N : Nat} {post : Sx → Prop} (k0 : Nat) (c1 : Nat) (n1 : Nat) (x2 : Int32) (x3 : Int32) (hc1 : IA 0 c1 n1) (h : w_X7_copyTo N k0 c1 n1 x2 x3 s post) : Met l yX7_copyTo (Cond.code yX7_copyTo cX7_copyTo 5 none :: gw) { frames := 2, cells := 0, slots := 0, locals := 43 } (va_Pc [.ref (adr G a 0 (42 + k0)), .ref (adr G a 0 c1), .int x2, .int x3] (fun U => FU G a s U)) (Qv G a post) 0 0 (bs_ G) := met_of (plainFor_of_name (by decide)) (Nat.le_of_ble_eq_true rfl) rfl (fun X hC hl hR hQ hr hG hn => by subst hG; exact b_X7_copyTo hC hR hQ hr hn s k0 c1 n1 x2 x3 hc1 h)
theorem ca_X7_copyTo : Ca yX7_copyTo cX7_copyTo 5 none 3 := ⟨cd_X7_copyTo, ii_RX7, by decide, by decide, by decide +kernel⟩
def w_X8_has (N : Nat) (x1 : Int32) (s : Sx) (post : Int32 → Sx → Prop) : Prop := w_X11_isWithin N x1 0 ((s.1 0 19 4) - 1) s (fun r_2 s_1 => (r_2 = 0 ∨ r_2 = 1) ∧ post r_2 s_1)
set_option maxHeartbeats 4000000 in
theorem b_X8_has {X : Kx} {a : Ax} {N : Nat} {post : Int32 → Sx → Prop} (hC : Cx X cX8_has 2 RX8) (hR : X.R = { frames := 1, cells := 0, slots := 0, locals := 22 }) (hQ : X.Q = MQ X.below (Qi X.G a post) X.av X.s 0 0 (bs_ X.G)) (hr : X.meth.sig.returnType = (some .boolean)) (hn : X.meth.name = "has") (s : Sx) (x1 : Int32) (h : w_X8_has N x1 s post) : wk X a s 2 0 [(0, .ref (adr X.G a 0 19)), (1, .int x1)] [] 0 0 := by
  unfold w_X8_has at h
  refine k_iload_n hC (pc := 0) dX8_has_0 1 rfl ?_
  refine k_iconst hC (pc := 1) (v := 0) dX8_has_1 ic_0 ?_
  refine k_aload_n hC (pc := 2) dX8_has_2 0 rfl ?_
  refine gf_X8_4 hC (pc := 3)  fl_RX8_33 dX8_has_3 ?_
  refine k_iconst hC (pc := 6) (v := 1) dX8_has_6 ic_1 ?_
  refine k_isub hC (pc := 7) dX8_has_7 ?_
  refine k_ci (rn_SN hC (pc := 8) (As := [.int x1, .int 0, .int ((s.1 0 19 4) - 1)]) (rest := []) ca_X11_isWithin nl_RX8_37 sm_X11_isWithin (ct_X11_isWithin x1 0 ((s.1 0 19 4) - 1) h) (by rw [hR]; exact ⟨rfl, rfl, by decide, by decide⟩) rfl (Nat.le_of_ble_eq_true rfl) dX8_has_8 ⟨by rw [hR]; decide, by rw [hR]; decide⟩) (fun r_2 s_1 h => ?_)
  obtain ⟨c_3, h⟩ := h
  exact k_zret hC (pc := 11) hQ hr dX8_has_11 c_3 h
theorem ct_X8_has {l : Launch} {G : Gx} {a : Ax} {s : Sx} {N : Nat} {post : Int32 → Sx → Prop} (x1 : Int32) (h : w_X8_has N x1 s post) : Met l yX8_has (Cond.code yX8_has cX8_has 2 (some .boolean) :: gw) { frames := 1, cells := 0, slots := 0, locals := 22 } (va_Pc [.ref (adr G a 0 19), .int x1] (fun U => FU G a s U)) (Qi G a post) 0 0 (bs_ G) := met_of (plainFor_of_name (by decide)) (Nat.le_of_ble_eq_true rfl) rfl (fun X hC hl hR hQ hr hG hn => by subst hG; exact b_X8_has hC hR hQ hr hn s x1 h)
theorem ca_X8_has : Ca yX8_has cX8_has 2 (some .boolean) 1 := ⟨cd_X8_has, ii_RX8, by decide, by decide, by decide +kernel⟩
def w_X8_add (N : Nat) (x1 : Int32) (x2 : Int32) (x3 : Int32) (x4 : Int32) (s : Sx) (post : Int32 → Sx → Prop) : Prop := ((s.1 0 19 4) < 12 → vp_in (s.1 0 19 4) 12 ∧ ∀ s_3, s_3 = setI s 0 20 (s.1 0 19 4).toNatClampNeg x1 → vp_in (s_3.1 0 19 4) 12 ∧ ∀ s_5, s_5 = setI s_3 0 21 (s_3.1 0 19 4).toNatClampNeg x2 → vp_in (s_5.1 0 19 4) 12 ∧ ∀ s_7, s_7 = setI s_5 0 22 (s_5.1 0 19 4).toNatClampNeg x3 → vp_in (s_7.1 0 19 4) 12 ∧ ∀ s_9, s_9 = setI s_7 0 23 (s_7.1 0 19 4).toNatClampNeg x4 → ∀ s_10, s_10 = setI s_9 0 19 4 ((s_9.1 0 19 4) + 1) → post ((s_10.1 0 19 4) - 1) s_10) ∧ (¬ ((s.1 0 19 4) < 12) → post ((-4)) s)
set_option maxHeartbeats 4000000 in
theorem b_X8_add {X : Kx} {a : Ax} {N : Nat} {post : Int32 → Sx → Prop} (hC : Cx X cX8_add 5 RX8) (hR : X.R = { frames := 0, cells := 0, slots := 0, locals := 0 }) (hQ : X.Q = MQ X.below (Qi X.G a post) X.av X.s 0 0 (bs_ X.G)) (hr : X.meth.sig.returnType = (some .int)) (hn : X.meth.name = "add") (s : Sx) (x1 : Int32) (x2 : Int32) (x3 : Int32) (x4 : Int32) (h : w_X8_add N x1 x2 x3 x4 s post) : wk X a s 5 0 [(0, .ref (adr X.G a 0 19)), (1, .int x1), (2, .int x2), (3, .int x3), (4, .int x4)] [] 0 0 := by
  unfold w_X8_add at h
  refine k_aload_n hC (pc := 0) dX8_add_0 0 rfl ?_
  refine gf_X8_4 hC (pc := 1)  fl_RX8_33 dX8_add_1 ?_
  refine k_bipush hC (pc := 4) (v := 12) dX8_add_4 bp_12 ?_
  refine k_icmp_lt hC (pc := 6) 12 dX8_add_6 (by decide) (fun c_1 => ?_) (fun c_1 => ?_)
  · have h := h.1 c_1
    refine k_aload_n hC (pc := 12) dX8_add_12 0 rfl ?_
    refine gf_X8_0 hC (pc := 13)  fl_RX8_11 dX8_add_13 ?_
    refine k_aload_n hC (pc := 16) dX8_add_16 0 rfl ?_
    refine gf_X8_4 hC (pc := 17)  fl_RX8_33 dX8_add_17 ?_
    refine k_iload_n hC (pc := 20) dX8_add_20 1 rfl ?_
    obtain ⟨c_2, h⟩ := h
    refine r_iast hC (pc := 21) ra0_20 c_2 dX8_add_21 (fun s_3 h_s_3 => ?_)
    have h := h s_3 h_s_3
    refine k_aload_n hC (pc := 22) dX8_add_22 0 rfl ?_
    refine gf_X8_1 hC (pc := 23)  fl_RX8_15 dX8_add_23 ?_
    refine k_aload_n hC (pc := 26) dX8_add_26 0 rfl ?_
    refine gf_X8_4 hC (pc := 27)  fl_RX8_33 dX8_add_27 ?_
    refine k_iload_n hC (pc := 30) dX8_add_30 2 rfl ?_
    obtain ⟨c_4, h⟩ := h
    refine r_iast hC (pc := 31) ra0_21 c_4 dX8_add_31 (fun s_5 h_s_5 => ?_)
    have h := h s_5 h_s_5
    refine k_aload_n hC (pc := 32) dX8_add_32 0 rfl ?_
    refine gf_X8_2 hC (pc := 33)  fl_RX8_18 dX8_add_33 ?_
    refine k_aload_n hC (pc := 36) dX8_add_36 0 rfl ?_
    refine gf_X8_4 hC (pc := 37)  fl_RX8_33 dX8_add_37 ?_
    refine k_iload_n hC (pc := 40) dX8_add_40 3 rfl ?_
    obtain ⟨c_6, h⟩ := h
    refine r_iast hC (pc := 41) ra0_22 c_6 dX8_add_41 (fun s_7 h_s_7 => ?_)
    have h := h s_7 h_s_7
    refine k_aload_n hC (pc := 42) dX8_add_42 0 rfl ?_
    refine gf_X8_3 hC (pc := 43)  fl_RX8_21 dX8_add_43 ?_
    refine k_aload_n hC (pc := 46) dX8_add_46 0 rfl ?_
    refine gf_X8_4 hC (pc := 47)  fl_RX8_33 dX8_add_47 ?_
    refine k_iload hC (pc := 50) dX8_add_50 4 rfl ?_
    obtain ⟨c_8, h⟩ := h
    refine r_iast hC (pc := 52) ra0_23 c_8 dX8_add_52 (fun s_9 h_s_9 => ?_)
    have h := h s_9 h_s_9
    refine k_aload_n hC (pc := 53) dX8_add_53 0 rfl ?_
    refine k_dup hC (pc := 54) dX8_add_54 rfl ?_
    refine gf_X8_4 hC (pc := 55)  fl_RX8_33 dX8_add_55 ?_
    refine k_iconst hC (pc := 58) (v := 1) dX8_add_58 ic_1 ?_
    refine k_iadd hC (pc := 59) dX8_add_59 ?_
    refine pf_X8_4 hC (pc := 60)  fl_RX8_33 dX8_add_60 (fun s_10 h_s_10 => ?_)
    have h := h s_10 h_s_10
    refine k_aload_n hC (pc := 63) dX8_add_63 0 rfl ?_
    refine gf_X8_4 hC (pc := 64)  fl_RX8_33 dX8_add_64 ?_
    refine k_iconst hC (pc := 67) (v := 1) dX8_add_67 ic_1 ?_
    refine k_isub hC (pc := 68) dX8_add_68 ?_
    exact k_iret hC (pc := 69) hQ hr dX8_add_69 h
  · have h := h.2 c_1
    refine k_bipush hC (pc := 9) (v := (-4)) dX8_add_9 bp_m4 ?_
    exact k_iret hC (pc := 11) hQ hr dX8_add_11 h
theorem ct_X8_add {l : Launch} {G : Gx} {a : Ax} {s : Sx} {N : Nat} {post : Int32 → Sx → Prop} (x1 : Int32) (x2 : Int32) (x3 : Int32) (x4 : Int32) (h : w_X8_add N x1 x2 x3 x4 s post) : Met l yX8_add (Cond.code yX8_add cX8_add 5 (some .int) :: gw) { frames := 0, cells := 0, slots := 0, locals := 0 } (va_Pc [.ref (adr G a 0 19), .int x1, .int x2, .int x3, .int x4] (fun U => FU G a s U)) (Qi G a post) 0 0 (bs_ G) := met_of (plainFor_of_name (by decide)) (Nat.le_of_ble_eq_true rfl) rfl (fun X hC hl hR hQ hr hG hn => by subst hG; exact b_X8_add hC hR hQ hr hn s x1 x2 x3 x4 h)
theorem ca_X8_add : Ca yX8_add cX8_add 5 (some .int) 4 := ⟨cd_X8_add, ii_RX8, by decide, by decide, by decide +kernel⟩
def w_X8_takeTable (N : Nat) (k1 : Nat) (x2 : Int32) (x3 : Int32) (s : Sx) (post : Int32 → Sx → Prop) : Prop := k1 < 4 ∧ (¬ x3 = 24 → post 0 s) ∧ (¬ (¬ x3 = 24) → w_X7_areWithin N k1 x2 x3 100 s (fun r_3 s_2 => (¬ r_3 = 0 → w_X7_copyTo N k1 24 24 x2 x3 s_2 (fun s_5 => post 1 s_5)) ∧ (¬ (¬ r_3 = 0) → post 0 s_2)))
set_option maxHeartbeats 4000000 in
theorem b_X8_takeTable {X : Kx} {a : Ax} {N : Nat} {post : Int32 → Sx → Prop} (hC : Cx X cX8_takeTable 4 RX8) (hR : X.R = { frames := 3, cells := 0, slots := 0, locals := 67 }) (hQ : X.Q = MQ X.below (Qi X.G a post) X.av X.s 0 0 (bs_ X.G)) (hr : X.meth.sig.returnType = (some .boolean)) (hn : X.meth.name = "takeTable") (s : Sx) (k1 : Nat) (x2 : Int32) (x3 : Int32) (h : w_X8_takeTable N k1 x2 x3 s post) : wk X a s 4 0 [(0, .ref (adr X.G a 0 19)), (1, .ref (adr X.G a 0 (42 + k1))), (2, .int x2), (3, .int x3)] [] 0 0 := by
  unfold w_X8_takeTable at h
  obtain ⟨hk1, h⟩ := h
  refine k_iload_n hC (pc := 0) dX8_takeTable_0 3 rfl ?_
  refine k_bipush hC (pc := 1) (v := 24) dX8_takeTable_1 bp_24 ?_
  refine k_icmp_ne hC (pc := 3) 17 dX8_takeTable_3 (by decide) (fun c_1 => ?_) (fun c_1 => ?_)
  · have h := h.1 c_1
    refine k_iconst hC (pc := 17) (v := 0) dX8_takeTable_17 ic_0 ?_
    exact k_zret hC (pc := 18) hQ hr dX8_takeTable_18 (Or.inl rfl) h
  · have h := h.2 c_1
    refine k_aload_n hC (pc := 6) dX8_takeTable_6 1 rfl ?_
    refine k_iload_n hC (pc := 7) dX8_takeTable_7 2 rfl ?_
    refine k_iload_n hC (pc := 8) dX8_takeTable_8 3 rfl ?_
    refine k_bipush hC (pc := 9) (v := 100) dX8_takeTable_9 bp_100 ?_
    refine k_ci (rn_V hC (pc := 11) (As := [.int x2, .int x3, .int 100]) (rest := []) ca_X7_areWithin ml_RX8_41 im_X7_areWithin se_X7_areWithin (fx_in (sh_f hk1)) (sh_o hk1 _ _ _ _ _) rfl rfl (ct_X7_areWithin k1 x2 x3 100 h) (by rw [hR]; exact ⟨rfl, rfl, by decide, by decide⟩) rfl (Nat.le_of_ble_eq_true rfl) dX8_takeTable_11 ⟨by rw [hR]; decide, by rw [hR]; decide⟩) (fun r_3 s_2 h => ?_)
    refine k_if_ne hC (pc := 14) 19 dX8_takeTable_14 (by decide) (fun c_4 => ?_) (fun c_4 => ?_)
    · have h := h.1 c_4
      refine k_aload_n hC (pc := 19) dX8_takeTable_19 1 rfl ?_
      refine k_aload_n hC (pc := 20) dX8_takeTable_20 0 rfl ?_
      refine gf_X8_5 hC (pc := 21)  fl_RX8_24 dX8_takeTable_21 ?_
      refine k_iload_n hC (pc := 24) dX8_takeTable_24 2 rfl ?_
      refine k_iload_n hC (pc := 25) dX8_takeTable_25 3 rfl ?_
      refine k_cv (rn_V hC (pc := 26) (As := [.ref (adr X.G a 0 24), .int x2, .int x3]) (rest := []) ca_X7_copyTo ml_RX8_46 im_X7_copyTo se_X7_copyTo (fx_in (sh_f hk1)) (sh_o hk1 _ _ _ _ _) rfl rfl (ct_X7_copyTo k1 24 24 x2 x3 ra0_24 h) (by rw [hR]; exact ⟨rfl, rfl, by decide, by decide⟩) rfl (Nat.le_of_ble_eq_true rfl) dX8_takeTable_26 ⟨by rw [hR]; decide, by rw [hR]; decide⟩) (fun s_5 h => ?_)
      refine k_iconst hC (pc := 29) (v := 1) dX8_takeTable_29 ic_1 ?_
      exact k_zret hC (pc := 30) hQ hr dX8_takeTable_30 (Or.inr rfl) h
    · have h := h.2 c_4
      refine k_iconst hC (pc := 17) (v := 0) dX8_takeTable_17 ic_0 ?_
      exact k_zret hC (pc := 18) hQ hr dX8_takeTable_18 (Or.inl rfl) h
theorem ct_X8_takeTable {l : Launch} {G : Gx} {a : Ax} {s : Sx} {N : Nat} {post : Int32 → Sx → Prop} (k1 : Nat) (x2 : Int32) (x3 : Int32) (h : w_X8_takeTable N k1 x2 x3 s post) : Met l yX8_takeTable (Cond.code yX8_takeTable cX8_takeTable 4 (some .boolean) :: gw) { frames := 3, cells := 0, slots := 0, locals := 67 } (va_Pc [.ref (adr G a 0 19), .ref (adr G a 0 (42 + k1)), .int x2, .int x3] (fun U => FU G a s U)) (Qi G a post) 0 0 (bs_ G) := met_of (plainFor_of_name (by decide)) (Nat.le_of_ble_eq_true rfl) rfl (fun X hC hl hR hQ hr hG hn => by subst hG; exact b_X8_takeTable hC hR hQ hr hn s k1 x2 x3 h)
theorem ca_X8_takeTable : Ca yX8_takeTable cX8_takeTable 4 (some .boolean) 3 := ⟨cd_X8_takeTable, ii_RX8, by decide, by decide, by decide +kernel⟩
def w_X8_liveIn_75 (N : Nat) (post : Int32 → Sx → Prop) (K42 : Sx → Int32 → Int32 → Int32 → Int32 → Int32 → Prop) (s : Sx) (x1 : Int32) (x2 : Int32) (x4 : Int32) (x5 : Int32) (z0 : Int32) (z2 : Int32) : Prop := vp_in z2 24 ∧ ∀ x_12 : Int32, x_12 = (z0 * (s.1 0 24 z2.toNatClampNeg)) / 100 → ∀ x_13 : Int32, x_13 = x5 + 1 → K42 s x1 x2 x_12 x4 x_13
def w_X8_liveIn_42 (N : Nat) (post : Int32 → Sx → Prop) : Nat → Sx → Int32 → Int32 → Int32 → Int32 → Int32 → Prop
  | 0, _, _, _, _, _, _ => False
  | n + 1, s, x1, x2, x3, x4, x5 => vp_in x1 12 ∧ ((x2 - (s.1 0 23 x1.toNatClampNeg)) < x5 → post x3 s) ∧ (¬ ((x2 - (s.1 0 23 x1.toNatClampNeg)) < x5) → (¬ x5 = 1 → w_X8_liveIn_75 N post (w_X8_liveIn_42 N post n) s x1 x2 x4 x5 x3 (x4 + 1)) ∧ (¬ (¬ x5 = 1) → w_X8_liveIn_75 N post (w_X8_liveIn_42 N post n) s x1 x2 x4 x5 x3 x4))
def w_X8_liveIn (N : Nat) (x1 : Int32) (x2 : Int32) (s : Sx) (post : Int32 → Sx → Prop) : Prop := vp_in x1 12 ∧ ((s.1 0 23 x1.toNatClampNeg) ≤ x2 → vp_in x1 12 ∧ ∀ x_4 : Int32, x_4 = s.1 0 22 x1.toNatClampNeg → vp_in x1 12 ∧ vp_in x1 12 ∧ ∀ x_7 : Int32, x_7 = (6 * (s.1 0 20 x1.toNatClampNeg)) + (2 * (s.1 0 21 x1.toNatClampNeg)) → w_X8_liveIn_42 N post N s x1 x2 x_4 x_7 1) ∧ (¬ ((s.1 0 23 x1.toNatClampNeg) ≤ x2) → post 0 s)
set_option maxHeartbeats 4000000 in
theorem b_X8_liveIn_75 {X : Kx} {a : Ax} {N : Nat} {post : Int32 → Sx → Prop} {K42 : Sx → Int32 → Int32 → Int32 → Int32 → Int32 → Prop}  (hC : Cx X cX8_liveIn 6 RX8) (hR : X.R = { frames := 0, cells := 0, slots := 0, locals := 0 }) (hQ : X.Q = MQ X.below (Qi X.G a post) X.av X.s 0 0 (bs_ X.G)) (hr : X.meth.sig.returnType = (some .int))  (hK42 : ∀ (s : Sx) (x1 : Int32) (x2 : Int32) (x3 : Int32) (x4 : Int32) (x5 : Int32), K42 s x1 x2 x3 x4 x5 → wk X a s 6 42 [(0, .ref (adr X.G a 0 19)), (1, .int x1), (2, .int x2), (3, .int x3), (4, .int x4), (5, .int x5)] [] 0 0) (s : Sx) (x1 : Int32) (x2 : Int32) (x4 : Int32) (x5 : Int32) (z0 : Int32) (z2 : Int32) (h : w_X8_liveIn_75 N post K42 s x1 x2 x4 x5 z0 z2) : wk X a s 6 75 [(0, .ref (adr X.G a 0 19)), (1, .int x1), (2, .int x2), (4, .int x4), (5, .int x5)] [.int z2, .ref (adr X.G a 0 24), .int z0] 0 0 := by
  unfold w_X8_liveIn_75 at h
  obtain ⟨c_11, h⟩ := h
  refine r_iald hC (pc := 75) ra0_24 c_11 dX8_liveIn_75 ?_
  refine k_imul hC (pc := 76) dX8_liveIn_76 ?_
  refine k_bipush hC (pc := 77) (v := 100) dX8_liveIn_77 bp_100 ?_
  refine k_idiv hC (pc := 79) dX8_liveIn_79 (by decide) ?_
  refine k_topi (fun x_12 h_x_12 => ?_)
  have h := h x_12 h_x_12
  refine k_istore_n hC (pc := 80) dX8_liveIn_80 [(3, .int x_12), (0, .ref (adr X.G a 0 19)), (1, .int x1), (2, .int x2), (4, .int x4), (5, .int x5)] (by decide) rfl ?_
  obtain ⟨x_13, h_x_13⟩ : ∃ z : Int32, z = x5 + 1 := ⟨_, rfl⟩
  have h := h x_13 h_x_13
  refine k_iincw hC (pc := 81) dX8_liveIn_81 5 rfl ic_1 h_x_13.symm [(5, .int x_13), (3, .int x_12), (0, .ref (adr X.G a 0 19)), (1, .int x1), (2, .int x2), (4, .int x4)] (by decide) rfl ?_
  refine k_goto hC (pc := 84) 42 dX8_liveIn_84 (by decide) ?_
  refine k_sub [(0, .ref (adr X.G a 0 19)), (1, .int x1), (2, .int x2), (3, .int x_12), (4, .int x4), (5, .int x_13)] [2, 3, 4, 1, 5, 0] rfl ?_
  exact hK42 _ _ _ _ _ _ h
set_option maxHeartbeats 4000000 in
theorem b_X8_liveIn_42 {X : Kx} {a : Ax} {N : Nat} {post : Int32 → Sx → Prop}  (hC : Cx X cX8_liveIn 6 RX8) (hR : X.R = { frames := 0, cells := 0, slots := 0, locals := 0 }) (hQ : X.Q = MQ X.below (Qi X.G a post) X.av X.s 0 0 (bs_ X.G)) (hr : X.meth.sig.returnType = (some .int))   : ∀ (n : Nat) (s : Sx) (x1 : Int32) (x2 : Int32) (x3 : Int32) (x4 : Int32) (x5 : Int32), w_X8_liveIn_42 N post  n s x1 x2 x3 x4 x5 → wk X a s 6 42 [(0, .ref (adr X.G a 0 19)), (1, .int x1), (2, .int x2), (3, .int x3), (4, .int x4), (5, .int x5)] [] 0 0 := by
  intro n
  induction n with
  | zero => intro s x1 x2 x3 x4 x5 h; exact h.elim
  | succ n ih =>
    intro s x1 x2 x3 x4 x5 h
    unfold w_X8_liveIn_42 at h
    refine k_iload hC (pc := 42) dX8_liveIn_42 5 rfl ?_
    refine k_iload_n hC (pc := 44) dX8_liveIn_44 2 rfl ?_
    refine k_aload_n hC (pc := 45) dX8_liveIn_45 0 rfl ?_
    refine gf_X8_3 hC (pc := 46)  fl_RX8_21 dX8_liveIn_46 ?_
    refine k_iload_n hC (pc := 49) dX8_liveIn_49 1 rfl ?_
    obtain ⟨c_8, h⟩ := h
    refine r_iald hC (pc := 50) ra0_23 c_8 dX8_liveIn_50 ?_
    refine k_isub hC (pc := 51) dX8_liveIn_51 ?_
    refine k_icmp_gt hC (pc := 52) 87 dX8_liveIn_52 (by decide) (fun c_9 => ?_) (fun c_9 => ?_)
    · have h := h.1 c_9
      refine k_iload_n hC (pc := 87) dX8_liveIn_87 3 rfl ?_
      exact k_iret hC (pc := 88) hQ hr dX8_liveIn_88 h
    · have h := h.2 c_9
      refine k_iload_n hC (pc := 55) dX8_liveIn_55 3 rfl ?_
      refine k_aload_n hC (pc := 56) dX8_liveIn_56 0 rfl ?_
      refine gf_X8_5 hC (pc := 57)  fl_RX8_24 dX8_liveIn_57 ?_
      refine k_iload hC (pc := 60) dX8_liveIn_60 5 rfl ?_
      refine k_iconst hC (pc := 62) (v := 1) dX8_liveIn_62 ic_1 ?_
      refine k_icmp_ne hC (pc := 63) 71 dX8_liveIn_63 (by decide) (fun c_10 => ?_) (fun c_10 => ?_)
      · have h := h.1 c_10
        refine k_iload hC (pc := 71) dX8_liveIn_71 4 rfl ?_
        refine k_iconst hC (pc := 73) (v := 1) dX8_liveIn_73 ic_1 ?_
        refine k_iadd hC (pc := 74) dX8_liveIn_74 ?_
        refine k_sub [(0, .ref (adr X.G a 0 19)), (1, .int x1), (2, .int x2), (4, .int x4), (5, .int x5)] [0, 1, 2, 4, 5] rfl ?_
        exact b_X8_liveIn_75 hC hR hQ hr ih _ _ _ _ _ _ _ h
      · have h := h.2 c_10
        refine k_iload hC (pc := 66) dX8_liveIn_66 4 rfl ?_
        refine k_goto hC (pc := 68) 75 dX8_liveIn_68 (by decide) ?_
        refine k_sub [(0, .ref (adr X.G a 0 19)), (1, .int x1), (2, .int x2), (4, .int x4), (5, .int x5)] [0, 1, 2, 4, 5] rfl ?_
        exact b_X8_liveIn_75 hC hR hQ hr ih _ _ _ _ _ _ _ h
set_option maxHeartbeats 4000000 in
theorem b_X8_liveIn {X : Kx} {a : Ax} {N : Nat} {post : Int32 → Sx → Prop} (hC : Cx X cX8_liveIn 6 RX8) (hR : X.R = { frames := 0, cells := 0, slots := 0, locals := 0 }) (hQ : X.Q = MQ X.below (Qi X.G a post) X.av X.s 0 0 (bs_ X.G)) (hr : X.meth.sig.returnType = (some .int)) (hn : X.meth.name = "liveIn") (s : Sx) (x1 : Int32) (x2 : Int32) (h : w_X8_liveIn N x1 x2 s post) : wk X a s 6 0 [(0, .ref (adr X.G a 0 19)), (1, .int x1), (2, .int x2)] [] 0 0 := by
  unfold w_X8_liveIn at h
  refine k_iload_n hC (pc := 0) dX8_liveIn_0 2 rfl ?_
  refine k_aload_n hC (pc := 1) dX8_liveIn_1 0 rfl ?_
  refine gf_X8_3 hC (pc := 2)  fl_RX8_21 dX8_liveIn_2 ?_
  refine k_iload_n hC (pc := 5) dX8_liveIn_5 1 rfl ?_
  obtain ⟨c_1, h⟩ := h
  refine r_iald hC (pc := 6) ra0_23 c_1 dX8_liveIn_6 ?_
  refine k_icmp_ge hC (pc := 7) 12 dX8_liveIn_7 (by decide) (fun c_2 => ?_) (fun c_2 => ?_)
  · have h := h.1 c_2
    refine k_aload_n hC (pc := 12) dX8_liveIn_12 0 rfl ?_
    refine gf_X8_2 hC (pc := 13)  fl_RX8_18 dX8_liveIn_13 ?_
    refine k_iload_n hC (pc := 16) dX8_liveIn_16 1 rfl ?_
    obtain ⟨c_3, h⟩ := h
    refine r_iald hC (pc := 17) ra0_22 c_3 dX8_liveIn_17 ?_
    refine k_topi (fun x_4 h_x_4 => ?_)
    have h := h x_4 h_x_4
    refine k_istore_n hC (pc := 18) dX8_liveIn_18 [(3, .int x_4), (0, .ref (adr X.G a 0 19)), (1, .int x1), (2, .int x2)] (by decide) rfl ?_
    refine k_bipush hC (pc := 19) (v := 6) dX8_liveIn_19 bp_6 ?_
    refine k_aload_n hC (pc := 21) dX8_liveIn_21 1 rfl ?_
    refine gf_X8_0 hC (pc := 22)  fl_RX8_11 dX8_liveIn_22 ?_
    refine k_iload_n hC (pc := 25) dX8_liveIn_25 2 rfl ?_
    obtain ⟨c_5, h⟩ := h
    refine r_iald hC (pc := 26) ra0_20 c_5 dX8_liveIn_26 ?_
    refine k_imul hC (pc := 27) dX8_liveIn_27 ?_
    refine k_iconst hC (pc := 28) (v := 2) dX8_liveIn_28 ic_2 ?_
    refine k_aload_n hC (pc := 29) dX8_liveIn_29 1 rfl ?_
    refine gf_X8_1 hC (pc := 30)  fl_RX8_15 dX8_liveIn_30 ?_
    refine k_iload_n hC (pc := 33) dX8_liveIn_33 2 rfl ?_
    obtain ⟨c_6, h⟩ := h
    refine r_iald hC (pc := 34) ra0_21 c_6 dX8_liveIn_34 ?_
    refine k_imul hC (pc := 35) dX8_liveIn_35 ?_
    refine k_iadd hC (pc := 36) dX8_liveIn_36 ?_
    refine k_topi (fun x_7 h_x_7 => ?_)
    have h := h x_7 h_x_7
    refine k_istore hC (pc := 37) dX8_liveIn_37 [(4, .int x_7), (3, .int x_4), (0, .ref (adr X.G a 0 19)), (1, .int x1), (2, .int x2)] (by decide) rfl ?_
    refine k_iconst hC (pc := 39) (v := 1) dX8_liveIn_39 ic_1 ?_
    refine k_istore hC (pc := 40) dX8_liveIn_40 [(5, .int 1), (4, .int x_7), (3, .int x_4), (0, .ref (adr X.G a 0 19)), (1, .int x1), (2, .int x2)] (by decide) rfl ?_
    refine k_sub [(0, .ref (adr X.G a 0 19)), (1, .int x1), (2, .int x2), (3, .int x_4), (4, .int x_7), (5, .int 1)] [3, 4, 5, 2, 1, 0] rfl ?_
    exact b_X8_liveIn_42 hC hR hQ hr N _ _ _ _ _ _ h
  · have h := h.2 c_2
    refine k_iconst hC (pc := 10) (v := 0) dX8_liveIn_10 ic_0 ?_
    exact k_iret hC (pc := 11) hQ hr dX8_liveIn_11 h
theorem ct_X8_liveIn {l : Launch} {G : Gx} {a : Ax} {s : Sx} {N : Nat} {post : Int32 → Sx → Prop} (x1 : Int32) (x2 : Int32) (h : w_X8_liveIn N x1 x2 s post) : Met l yX8_liveIn (Cond.code yX8_liveIn cX8_liveIn 6 (some .int) :: gw) { frames := 0, cells := 0, slots := 0, locals := 0 } (va_Pc [.ref (adr G a 0 19), .int x1, .int x2] (fun U => FU G a s U)) (Qi G a post) 0 0 (bs_ G) := met_of (plainFor_of_name (by decide)) (Nat.le_of_ble_eq_true rfl) rfl (fun X hC hl hR hQ hr hG hn => by subst hG; exact b_X8_liveIn hC hR hQ hr hn s x1 x2 h)
theorem ca_X8_liveIn : Ca yX8_liveIn cX8_liveIn 6 (some .int) 2 := ⟨cd_X8_liveIn, ii_RX8, by decide, by decide, by decide +kernel⟩
def w_X8_liveOfKind_30 (N : Nat) (post : Int64 → Sx → Prop) (K5 : Sx → Int32 → Int32 → Int64 → Int32 → Prop) (s : Sx) (x1 : Int32) (x2 : Int32) (y3 : Int64) (x5 : Int32) : Prop := w_X8_liveIn N x5 x2 s (fun r_4 s_3 => ∀ x_5 : Int64, x_5 = y3 + r_4.toInt64 → ∀ x_6 : Int32, x_6 = x5 + 1 → K5 s_3 x1 x2 x_5 x_6)
def w_X8_liveOfKind_5 (N : Nat) (post : Int64 → Sx → Prop) : Nat → Sx → Int32 → Int32 → Int64 → Int32 → Prop
  | 0, _, _, _, _, _ => False
  | n + 1, s, x1, x2, y3, x5 => ((s.1 0 19 4) ≤ x5 → post y3 s) ∧ (¬ ((s.1 0 19 4) ≤ x5) → (x1 = 4 → w_X8_liveOfKind_30 N post (w_X8_liveOfKind_5 N post n) s x1 x2 y3 x5) ∧ (¬ (x1 = 4) → vp_in x5 12 ∧ (¬ (s.1 0 20 x5.toNatClampNeg) = x1 → ∀ x_9 : Int32, x_9 = x5 + 1 → w_X8_liveOfKind_5 N post n s x1 x2 y3 x_9) ∧ (¬ (¬ (s.1 0 20 x5.toNatClampNeg) = x1) → w_X8_liveOfKind_30 N post (w_X8_liveOfKind_5 N post n) s x1 x2 y3 x5)))
def w_X8_liveOfKind (N : Nat) (x1 : Int32) (x2 : Int32) (s : Sx) (post : Int64 → Sx → Prop) : Prop := w_X8_liveOfKind_5 N post N s x1 x2 0 0
set_option maxHeartbeats 4000000 in
theorem b_X8_liveOfKind_30 {X : Kx} {a : Ax} {N : Nat} {post : Int64 → Sx → Prop} {K5 : Sx → Int32 → Int32 → Int64 → Int32 → Prop}  (hC : Cx X cX8_liveOfKind 6 RX8) (hR : X.R = { frames := 1, cells := 0, slots := 0, locals := 25 }) (hQ : X.Q = MQ X.below (Ql X.G a post) X.av X.s 0 0 (bs_ X.G)) (hr : X.meth.sig.returnType = (some .long))  (hK5 : ∀ (s : Sx) (x1 : Int32) (x2 : Int32) (y3 : Int64) (x5 : Int32), K5 s x1 x2 y3 x5 → wk X a s 6 5 [(0, .ref (adr X.G a 0 19)), (1, .int x1), (2, .int x2), (3, .long y3), (5, .int x5)] [] 0 0) (s : Sx) (x1 : Int32) (x2 : Int32) (y3 : Int64) (x5 : Int32) (h : w_X8_liveOfKind_30 N post K5 s x1 x2 y3 x5) : wk X a s 6 30 [(0, .ref (adr X.G a 0 19)), (1, .int x1), (2, .int x2), (3, .long y3), (5, .int x5)] [] 0 0 := by
  unfold w_X8_liveOfKind_30 at h
  refine k_lload_n hC (pc := 30) dX8_liveOfKind_30 3 rfl ?_
  refine k_aload_n hC (pc := 31) dX8_liveOfKind_31 0 rfl ?_
  refine k_iload hC (pc := 32) dX8_liveOfKind_32 4 rfl ?_
  refine k_iload_n hC (pc := 34) dX8_liveOfKind_34 2 rfl ?_
  refine k_ci (rn_V hC (pc := 35) (As := [.int x5, .int x2]) (rest := [.long y3]) ca_X8_liveIn ml_RX8_50 im_X8_liveIn se_X8_liveIn (fx_in f0_19) (ob0_19 _ _ _ _ _) rfl rfl (ct_X8_liveIn x5 x2 h) (by rw [hR]; exact ⟨rfl, rfl, by decide, by decide⟩) rfl (Nat.le_of_ble_eq_true rfl) dX8_liveOfKind_35 ⟨by rw [hR]; decide, by rw [hR]; decide⟩) (fun r_4 s_3 h => ?_)
  refine k_i2l hC (pc := 38) dX8_liveOfKind_38 ?_
  refine k_ladd hC (pc := 39) dX8_liveOfKind_39 ?_
  refine k_topl (fun x_5 h_x_5 => ?_)
  have h := h x_5 h_x_5
  refine k_lstore_n hC (pc := 40) dX8_liveOfKind_40 [(3, .long x_5), (0, .ref (adr X.G a 0 19)), (1, .int x1), (2, .int x2), (5, .int x5)] (by decide) rfl ?_
  obtain ⟨x_6, h_x_6⟩ : ∃ z : Int32, z = x5 + 1 := ⟨_, rfl⟩
  have h := h x_6 h_x_6
  refine k_iincw hC (pc := 41) dX8_liveOfKind_41 4 rfl ic_1 h_x_6.symm [(5, .int x_6), (3, .long x_5), (0, .ref (adr X.G a 0 19)), (1, .int x1), (2, .int x2)] (by decide) rfl ?_
  refine k_goto hC (pc := 44) 5 dX8_liveOfKind_44 (by decide) ?_
  refine k_sub [(0, .ref (adr X.G a 0 19)), (1, .int x1), (2, .int x2), (3, .long x_5), (5, .int x_6)] [2, 3, 4, 1, 0] rfl ?_
  exact hK5 _ _ _ _ _ h
set_option maxHeartbeats 4000000 in
theorem b_X8_liveOfKind_5 {X : Kx} {a : Ax} {N : Nat} {post : Int64 → Sx → Prop}  (hC : Cx X cX8_liveOfKind 6 RX8) (hR : X.R = { frames := 1, cells := 0, slots := 0, locals := 25 }) (hQ : X.Q = MQ X.below (Ql X.G a post) X.av X.s 0 0 (bs_ X.G)) (hr : X.meth.sig.returnType = (some .long))   : ∀ (n : Nat) (s : Sx) (x1 : Int32) (x2 : Int32) (y3 : Int64) (x5 : Int32), w_X8_liveOfKind_5 N post  n s x1 x2 y3 x5 → wk X a s 6 5 [(0, .ref (adr X.G a 0 19)), (1, .int x1), (2, .int x2), (3, .long y3), (5, .int x5)] [] 0 0 := by
  intro n
  induction n with
  | zero => intro s x1 x2 y3 x5 h; exact h.elim
  | succ n ih =>
    intro s x1 x2 y3 x5 h
    unfold w_X8_liveOfKind_5 at h
    refine k_iload hC (pc := 5) dX8_liveOfKind_5 4 rfl ?_
    refine k_aload_n hC (pc := 7) dX8_liveOfKind_7 0 rfl ?_
    refine gf_X8_4 hC (pc := 8)  fl_RX8_33 dX8_liveOfKind_8 ?_
    refine k_icmp_ge hC (pc := 11) 47 dX8_liveOfKind_11 (by decide) (fun c_1 => ?_) (fun c_1 => ?_)
    · have h := h.1 c_1
      refine k_lload_n hC (pc := 47) dX8_liveOfKind_47 3 rfl ?_
      exact k_lret hC (pc := 48) hQ hr dX8_liveOfKind_48 h
    · have h := h.2 c_1
      refine k_iload_n hC (pc := 14) dX8_liveOfKind_14 1 rfl ?_
      refine k_iconst hC (pc := 15) (v := 4) dX8_liveOfKind_15 ic_4 ?_
      refine k_icmp_eq hC (pc := 16) 30 dX8_liveOfKind_16 (by decide) (fun c_2 => ?_) (fun c_2 => ?_)
      · have h := h.1 c_2
        exact b_X8_liveOfKind_30 hC hR hQ hr ih _ _ _ _ _ h
      · have h := h.2 c_2
        refine k_aload_n hC (pc := 19) dX8_liveOfKind_19 0 rfl ?_
        refine gf_X8_0 hC (pc := 20)  fl_RX8_11 dX8_liveOfKind_20 ?_
        refine k_iload hC (pc := 23) dX8_liveOfKind_23 4 rfl ?_
        obtain ⟨c_7, h⟩ := h
        refine r_iald hC (pc := 25) ra0_20 c_7 dX8_liveOfKind_25 ?_
        refine k_iload_n hC (pc := 26) dX8_liveOfKind_26 1 rfl ?_
        refine k_icmp_ne hC (pc := 27) 41 dX8_liveOfKind_27 (by decide) (fun c_8 => ?_) (fun c_8 => ?_)
        · have h := h.1 c_8
          obtain ⟨x_9, h_x_9⟩ : ∃ z : Int32, z = x5 + 1 := ⟨_, rfl⟩
          have h := h x_9 h_x_9
          refine k_iincw hC (pc := 41) dX8_liveOfKind_41 4 rfl ic_1 h_x_9.symm [(5, .int x_9), (0, .ref (adr X.G a 0 19)), (1, .int x1), (2, .int x2), (3, .long y3)] (by decide) rfl ?_
          refine k_goto hC (pc := 44) 5 dX8_liveOfKind_44 (by decide) ?_
          refine k_sub [(0, .ref (adr X.G a 0 19)), (1, .int x1), (2, .int x2), (3, .long y3), (5, .int x_9)] [1, 2, 3, 4, 0] rfl ?_
          exact ih _ _ _ _ _ h
        · have h := h.2 c_8
          exact b_X8_liveOfKind_30 hC hR hQ hr ih _ _ _ _ _ h
set_option maxHeartbeats 4000000 in
theorem b_X8_liveOfKind {X : Kx} {a : Ax} {N : Nat} {post : Int64 → Sx → Prop} (hC : Cx X cX8_liveOfKind 6 RX8) (hR : X.R = { frames := 1, cells := 0, slots := 0, locals := 25 }) (hQ : X.Q = MQ X.below (Ql X.G a post) X.av X.s 0 0 (bs_ X.G)) (hr : X.meth.sig.returnType = (some .long)) (hn : X.meth.name = "liveOfKind") (s : Sx) (x1 : Int32) (x2 : Int32) (h : w_X8_liveOfKind N x1 x2 s post) : wk X a s 6 0 [(0, .ref (adr X.G a 0 19)), (1, .int x1), (2, .int x2)] [] 0 0 := by
  unfold w_X8_liveOfKind at h
  refine k_lconst hC (pc := 0) (v := 0) dX8_liveOfKind_0 rfl ?_
  refine k_lstore_n hC (pc := 1) dX8_liveOfKind_1 [(3, .long 0), (0, .ref (adr X.G a 0 19)), (1, .int x1), (2, .int x2)] (by decide) rfl ?_
  refine k_iconst hC (pc := 2) (v := 0) dX8_liveOfKind_2 ic_0 ?_
  refine k_istore hC (pc := 3) dX8_liveOfKind_3 [(5, .int 0), (3, .long 0), (0, .ref (adr X.G a 0 19)), (1, .int x1), (2, .int x2)] (by decide) rfl ?_
  refine k_sub [(0, .ref (adr X.G a 0 19)), (1, .int x1), (2, .int x2), (3, .long 0), (5, .int 0)] [2, 3, 4, 1, 0] rfl ?_
  exact b_X8_liveOfKind_5 hC hR hQ hr N _ _ _ _ _ h
theorem ct_X8_liveOfKind {l : Launch} {G : Gx} {a : Ax} {s : Sx} {N : Nat} {post : Int64 → Sx → Prop} (x1 : Int32) (x2 : Int32) (h : w_X8_liveOfKind N x1 x2 s post) : Met l yX8_liveOfKind (Cond.code yX8_liveOfKind cX8_liveOfKind 6 (some .long) :: gw) { frames := 1, cells := 0, slots := 0, locals := 25 } (va_Pc [.ref (adr G a 0 19), .int x1, .int x2] (fun U => FU G a s U)) (Ql G a post) 0 0 (bs_ G) := met_of (plainFor_of_name (by decide)) (Nat.le_of_ble_eq_true rfl) rfl (fun X hC hl hR hQ hr hG hn => by subst hG; exact b_X8_liveOfKind hC hR hQ hr hn s x1 x2 h)
theorem ca_X8_liveOfKind : Ca yX8_liveOfKind cX8_liveOfKind 6 (some .long) 2 := ⟨cd_X8_liveOfKind, ii_RX8, by decide, by decide, by decide +kernel⟩
def w_X9_init (N : Nat) (p0 : Nat) (x1 : Int32) (x2 : Int32) (x3 : Int32) (s : Sx) (post : Sx → Prop) : Prop := p0 < s.2.2 4 ∧ ∀ s_2, s_2 = setI s 3 p0 0 x1 → p0 < s_2.2.2 4 ∧ ∀ s_4, s_4 = setI s_2 3 p0 1 x2 → p0 < s_4.2.2 4 ∧ ∀ s_6, s_6 = setI s_4 3 p0 2 x3 → post s_6
set_option maxHeartbeats 4000000 in
theorem b_X9_init {X : Kx} {a : Ax} {N : Nat} {post : Sx → Prop} (hC : Cx X cX9_init 4 RX9) (hR : X.R = { frames := 1, cells := 0, slots := 0, locals := 20 }) (hQ : X.Q = MQ X.below (Qv X.G a post) X.av X.s 0 0 (bs_ X.G)) (hr : X.meth.sig.returnType = none) (hn : X.meth.name = "<init>") (s : Sx) (p0 : Nat) (x1 : Int32) (x2 : Int32) (x3 : Int32) (h : w_X9_init N p0 x1 x2 x3 s post) : wk X a s 4 0 [(0, .ref (adr X.G a 3 p0)), (1, .int x1), (2, .int x2), (3, .int x3)] [] 0 0 := by
  unfold w_X9_init at h
  refine k_aload_n hC (pc := 0) dX9_init_0 0 rfl ?_
  refine k_objInit hC (pc := 1) ml_RX9_3 rfl (by rw [hR]; decide) (by rw [hR]; decide) dX9_init_1 ?_
  refine k_aload_n hC (pc := 4) dX9_init_4 0 rfl ?_
  refine k_iload_n hC (pc := 5) dX9_init_5 1 rfl ?_
  obtain ⟨c_1, h⟩ := h
  refine pf_X9_0 hC (pc := 6) hn c_1 rfl fl_RX9_9 dX9_init_6 (fun s_2 h_s_2 => ?_)
  have h := h s_2 h_s_2
  refine k_aload_n hC (pc := 9) dX9_init_9 0 rfl ?_
  refine k_iload_n hC (pc := 10) dX9_init_10 2 rfl ?_
  obtain ⟨c_3, h⟩ := h
  refine pf_X9_1 hC (pc := 11) hn c_3 rfl fl_RX9_15 dX9_init_11 (fun s_4 h_s_4 => ?_)
  have h := h s_4 h_s_4
  refine k_aload_n hC (pc := 14) dX9_init_14 0 rfl ?_
  refine k_iload_n hC (pc := 15) dX9_init_15 3 rfl ?_
  obtain ⟨c_5, h⟩ := h
  refine pf_X9_2 hC (pc := 16) c_5 fl_RX9_18 dX9_init_16 (fun s_6 h_s_6 => ?_)
  have h := h s_6 h_s_6
  exact k_vret hC (pc := 19) hQ hr dX9_init_19 h
theorem ct_X9_init {l : Launch} {G : Gx} {a : Ax} {s : Sx} {N : Nat} {post : Sx → Prop} (p0 : Nat) (x1 : Int32) (x2 : Int32) (x3 : Int32) (h : w_X9_init N p0 x1 x2 x3 s post) : Met l yX9_init (Cond.code yX9_init cX9_init 4 none :: gw) { frames := 1, cells := 0, slots := 0, locals := 20 } (va_Pc [.ref (adr G a 3 p0), .int x1, .int x2, .int x3] (fun U => FU G a s U)) (Qv G a post) 0 0 (bs_ G) := met_of (plainFor_of_name (by decide)) (Nat.le_of_ble_eq_true rfl) rfl (fun X hC hl hR hQ hr hG hn => by subst hG; exact b_X9_init hC hR hQ hr hn s p0 x1 x2 x3 h)
theorem ca_X9_init : Ca yX9_init cX9_init 4 none 3 := ⟨cd_X9_init, ii_RX9, by decide, by decide, by decide +kernel⟩
def w_X9_changeHands (N : Nat) (p0 : Nat) (x1 : Int32) (s : Sx) (post : Int32 → Sx → Prop) : Prop := p0 < s.2.2 4 ∧ ∀ x_2 : Int32, x_2 = s.1 3 p0 3 → p0 < s.2.2 4 ∧ ∀ s_4, s_4 = setI s 3 p0 3 x1 → post x_2 s_4
set_option maxHeartbeats 4000000 in
theorem b_X9_changeHands {X : Kx} {a : Ax} {N : Nat} {post : Int32 → Sx → Prop} (hC : Cx X cX9_changeHands 3 RX9) (hR : X.R = { frames := 0, cells := 0, slots := 0, locals := 0 }) (hQ : X.Q = MQ X.below (Qi X.G a post) X.av X.s 0 0 (bs_ X.G)) (hr : X.meth.sig.returnType = (some .int)) (hn : X.meth.name = "changeHands") (s : Sx) (p0 : Nat) (x1 : Int32) (h : w_X9_changeHands N p0 x1 s post) : wk X a s 3 0 [(0, .ref (adr X.G a 3 p0)), (1, .int x1)] [] 0 0 := by
  unfold w_X9_changeHands at h
  refine k_aload_n hC (pc := 0) dX9_changeHands_0 0 rfl ?_
  obtain ⟨c_1, h⟩ := h
  refine gf_X9_3 hC (pc := 1) c_1 fl_RX9_21 dX9_changeHands_1 ?_
  refine k_topi (fun x_2 h_x_2 => ?_)
  have h := h x_2 h_x_2
  refine k_istore_n hC (pc := 4) dX9_changeHands_4 [(2, .int x_2), (0, .ref (adr X.G a 3 p0)), (1, .int x1)] (by decide) rfl ?_
  refine k_aload_n hC (pc := 5) dX9_changeHands_5 1 rfl ?_
  refine k_iload_n hC (pc := 6) dX9_changeHands_6 2 rfl ?_
  obtain ⟨c_3, h⟩ := h
  refine pf_X9_3 hC (pc := 7) c_3 fl_RX9_21 dX9_changeHands_7 (fun s_4 h_s_4 => ?_)
  have h := h s_4 h_s_4
  refine k_iload_n hC (pc := 10) dX9_changeHands_10 0 rfl ?_
  exact k_iret hC (pc := 11) hQ hr dX9_changeHands_11 h
theorem ct_X9_changeHands {l : Launch} {G : Gx} {a : Ax} {s : Sx} {N : Nat} {post : Int32 → Sx → Prop} (p0 : Nat) (x1 : Int32) (h : w_X9_changeHands N p0 x1 s post) : Met l yX9_changeHands (Cond.code yX9_changeHands cX9_changeHands 3 (some .int) :: gw) { frames := 0, cells := 0, slots := 0, locals := 0 } (va_Pc [.ref (adr G a 3 p0), .int x1] (fun U => FU G a s U)) (Qi G a post) 0 0 (bs_ G) := met_of (plainFor_of_name (by decide)) (Nat.le_of_ble_eq_true rfl) rfl (fun X hC hl hR hQ hr hG hn => by subst hG; exact b_X9_changeHands hC hR hQ hr hn s p0 x1 h)
theorem ca_X9_changeHands : Ca yX9_changeHands cX9_changeHands 3 (some .int) 1 := ⟨cd_X9_changeHands, ii_RX9, by decide, by decide, by decide +kernel⟩
def w_X9_changeTools (N : Nat) (p0 : Nat) (x1 : Int32) (s : Sx) (post : Int32 → Sx → Prop) : Prop := p0 < s.2.2 4 ∧ ∀ x_2 : Int32, x_2 = s.1 3 p0 2 → p0 < s.2.2 4 ∧ ∀ s_4, s_4 = setI s 3 p0 2 x1 → post x_2 s_4
set_option maxHeartbeats 4000000 in
theorem b_X9_changeTools {X : Kx} {a : Ax} {N : Nat} {post : Int32 → Sx → Prop} (hC : Cx X cX9_changeTools 3 RX9) (hR : X.R = { frames := 0, cells := 0, slots := 0, locals := 0 }) (hQ : X.Q = MQ X.below (Qi X.G a post) X.av X.s 0 0 (bs_ X.G)) (hr : X.meth.sig.returnType = (some .int)) (hn : X.meth.name = "changeTools") (s : Sx) (p0 : Nat) (x1 : Int32) (h : w_X9_changeTools N p0 x1 s post) : wk X a s 3 0 [(0, .ref (adr X.G a 3 p0)), (1, .int x1)] [] 0 0 := by
  unfold w_X9_changeTools at h
  refine k_aload_n hC (pc := 0) dX9_changeTools_0 0 rfl ?_
  obtain ⟨c_1, h⟩ := h
  refine gf_X9_2 hC (pc := 1) c_1 fl_RX9_18 dX9_changeTools_1 ?_
  refine k_topi (fun x_2 h_x_2 => ?_)
  have h := h x_2 h_x_2
  refine k_istore_n hC (pc := 4) dX9_changeTools_4 [(2, .int x_2), (0, .ref (adr X.G a 3 p0)), (1, .int x1)] (by decide) rfl ?_
  refine k_aload_n hC (pc := 5) dX9_changeTools_5 1 rfl ?_
  refine k_iload_n hC (pc := 6) dX9_changeTools_6 2 rfl ?_
  obtain ⟨c_3, h⟩ := h
  refine pf_X9_2 hC (pc := 7) c_3 fl_RX9_18 dX9_changeTools_7 (fun s_4 h_s_4 => ?_)
  have h := h s_4 h_s_4
  refine k_iload_n hC (pc := 10) dX9_changeTools_10 0 rfl ?_
  exact k_iret hC (pc := 11) hQ hr dX9_changeTools_11 h
theorem ct_X9_changeTools {l : Launch} {G : Gx} {a : Ax} {s : Sx} {N : Nat} {post : Int32 → Sx → Prop} (p0 : Nat) (x1 : Int32) (h : w_X9_changeTools N p0 x1 s post) : Met l yX9_changeTools (Cond.code yX9_changeTools cX9_changeTools 3 (some .int) :: gw) { frames := 0, cells := 0, slots := 0, locals := 0 } (va_Pc [.ref (adr G a 3 p0), .int x1] (fun U => FU G a s U)) (Qi G a post) 0 0 (bs_ G) := met_of (plainFor_of_name (by decide)) (Nat.le_of_ble_eq_true rfl) rfl (fun X hC hl hR hQ hr hG hn => by subst hG; exact b_X9_changeTools hC hR hQ hr hn s p0 x1 h)
theorem ca_X9_changeTools : Ca yX9_changeTools cX9_changeTools 3 (some .int) 1 := ⟨cd_X9_changeTools, ii_RX9, by decide, by decide, by decide +kernel⟩
def w_X9_passWeek (N : Nat) (p0 : Nat) (x1 : Int32) (s : Sx) (post : Int32 → Sx → Prop) : Prop := p0 < s.2.2 4 ∧ p0 < s.2.2 4 ∧ ((s.1 3 p0 4) < (s.1 3 p0 1) → p0 < s.2.2 4 ∧ p0 < s.2.2 4 ∧ w_J9_min_7cf53 N (s.1 3 p0 3) (s.1 3 p0 2) s (fun r_7 s_6 => ∀ x_8 : Int32, x_8 = 4 - (2 * x1) → p0 < s_6.2.2 4 ∧ p0 < s_6.2.2 4 ∧ w_J9_min_7cf53 N (r_7 * x_8) ((s_6.1 3 p0 1) - (s_6.1 3 p0 4)) s_6 (fun r_12 s_11 => p0 < s_11.2.2 4 ∧ p0 < s_11.2.2 4 ∧ ∀ s_15, s_15 = setI s_11 3 p0 4 ((s_11.1 3 p0 4) + r_12) → p0 < s_15.2.2 4 ∧ p0 < s_15.2.2 4 ∧ p0 < s_15.2.2 4 ∧ ∀ s_19, s_19 = setI s_15 3 p0 5 ((s_15.1 3 p0 5) + (((s_15.1 3 p0 3) - r_7) * 4)) → p0 < s_19.2.2 4 ∧ p0 < s_19.2.2 4 ∧ ∀ s_22, s_22 = setI s_19 3 p0 6 ((s_19.1 3 p0 6) + (r_7 * (4 - x_8))) → p0 < s_22.2.2 4 ∧ p0 < s_22.2.2 4 ∧ ∀ s_25, s_25 = setI s_22 3 p0 7 ((s_22.1 3 p0 7) + (((r_12 + 9) / 10) * 10)) → post r_12 s_25))) ∧ (¬ ((s.1 3 p0 4) < (s.1 3 p0 1)) → post 0 s)
set_option maxHeartbeats 4000000 in
theorem b_X9_passWeek {X : Kx} {a : Ax} {N : Nat} {post : Int32 → Sx → Prop} (hC : Cx X cX9_passWeek 5 RX9) (hR : X.R = { frames := 1, cells := 0, slots := 0, locals := 21 }) (hQ : X.Q = MQ X.below (Qi X.G a post) X.av X.s 0 0 (bs_ X.G)) (hr : X.meth.sig.returnType = (some .int)) (hn : X.meth.name = "passWeek") (s : Sx) (p0 : Nat) (x1 : Int32) (h : w_X9_passWeek N p0 x1 s post) : wk X a s 5 0 [(0, .ref (adr X.G a 3 p0)), (1, .int x1)] [] 0 0 := by
  unfold w_X9_passWeek at h
  refine k_aload_n hC (pc := 0) dX9_passWeek_0 0 rfl ?_
  obtain ⟨c_1, h⟩ := h
  refine gf_X9_4 hC (pc := 1) c_1 fl_RX9_24 dX9_passWeek_1 ?_
  refine k_aload_n hC (pc := 4) dX9_passWeek_4 0 rfl ?_
  obtain ⟨c_2, h⟩ := h
  refine gf_X9_1 hC (pc := 5) c_2 fl_RX9_15 dX9_passWeek_5 ?_
  refine k_icmp_lt hC (pc := 8) 13 dX9_passWeek_8 (by decide) (fun c_3 => ?_) (fun c_3 => ?_)
  · have h := h.1 c_3
    refine k_aload_n hC (pc := 13) dX9_passWeek_13 0 rfl ?_
    obtain ⟨c_4, h⟩ := h
    refine gf_X9_3 hC (pc := 14) c_4 fl_RX9_21 dX9_passWeek_14 ?_
    refine k_aload_n hC (pc := 17) dX9_passWeek_17 0 rfl ?_
    obtain ⟨c_5, h⟩ := h
    refine gf_X9_2 hC (pc := 18) c_5 fl_RX9_18 dX9_passWeek_18 ?_
    refine k_ci (rn_S hC (pc := 21) (As := [.int (s.1 3 p0 3), .int (s.1 3 p0 2)]) (rest := []) ca_J9_min_7cf53 ml_RX9_27 sm_J9_min_7cf53 (ct_J9_min_7cf53 (s.1 3 p0 3) (s.1 3 p0 2) h) (by rw [hR]; exact ⟨rfl, rfl, by decide, by decide⟩) rfl (Nat.le_of_ble_eq_true rfl) dX9_passWeek_21 ⟨by rw [hR]; decide, by rw [hR]; decide⟩) (fun r_7 s_6 h => ?_)
    refine k_istore_n hC (pc := 24) dX9_passWeek_24 [(2, .int r_7), (0, .ref (adr X.G a 3 p0)), (1, .int x1)] (by decide) rfl ?_
    refine k_iconst hC (pc := 25) (v := 4) dX9_passWeek_25 ic_4 ?_
    refine k_iconst hC (pc := 26) (v := 2) dX9_passWeek_26 ic_2 ?_
    refine k_iload_n hC (pc := 27) dX9_passWeek_27 2 rfl ?_
    refine k_imul hC (pc := 28) dX9_passWeek_28 ?_
    refine k_isub hC (pc := 29) dX9_passWeek_29 ?_
    refine k_topi (fun x_8 h_x_8 => ?_)
    have h := h x_8 h_x_8
    refine k_istore_n hC (pc := 30) dX9_passWeek_30 [(3, .int x_8), (2, .int r_7), (0, .ref (adr X.G a 3 p0)), (1, .int x1)] (by decide) rfl ?_
    refine k_iload_n hC (pc := 31) dX9_passWeek_31 1 rfl ?_
    refine k_iload_n hC (pc := 32) dX9_passWeek_32 0 rfl ?_
    refine k_imul hC (pc := 33) dX9_passWeek_33 ?_
    refine k_aload_n hC (pc := 34) dX9_passWeek_34 2 rfl ?_
    obtain ⟨c_9, h⟩ := h
    refine gf_X9_1 hC (pc := 35) c_9 fl_RX9_15 dX9_passWeek_35 ?_
    refine k_aload_n hC (pc := 38) dX9_passWeek_38 2 rfl ?_
    obtain ⟨c_10, h⟩ := h
    refine gf_X9_4 hC (pc := 39) c_10 fl_RX9_24 dX9_passWeek_39 ?_
    refine k_isub hC (pc := 42) dX9_passWeek_42 ?_
    refine k_ci (rn_S hC (pc := 43) (As := [.int (r_7 * x_8), .int ((s_6.1 3 p0 1) - (s_6.1 3 p0 4))]) (rest := []) ca_J9_min_7cf53 ml_RX9_27 sm_J9_min_7cf53 (ct_J9_min_7cf53 (r_7 * x_8) ((s_6.1 3 p0 1) - (s_6.1 3 p0 4)) h) (by rw [hR]; exact ⟨rfl, rfl, by decide, by decide⟩) rfl (Nat.le_of_ble_eq_true rfl) dX9_passWeek_43 ⟨by rw [hR]; decide, by rw [hR]; decide⟩) (fun r_12 s_11 h => ?_)
    refine k_istore hC (pc := 46) dX9_passWeek_46 [(4, .int r_12), (3, .int x_8), (2, .int r_7), (0, .ref (adr X.G a 3 p0)), (1, .int x1)] (by decide) rfl ?_
    refine k_aload_n hC (pc := 48) dX9_passWeek_48 3 rfl ?_
    refine k_dup hC (pc := 49) dX9_passWeek_49 rfl ?_
    obtain ⟨c_13, h⟩ := h
    refine gf_X9_4 hC (pc := 50) c_13 fl_RX9_24 dX9_passWeek_50 ?_
    refine k_iload hC (pc := 53) dX9_passWeek_53 0 rfl ?_
    refine k_iadd hC (pc := 55) dX9_passWeek_55 ?_
    obtain ⟨c_14, h⟩ := h
    refine pf_X9_4 hC (pc := 56) c_14 fl_RX9_24 dX9_passWeek_56 (fun s_15 h_s_15 => ?_)
    have h := h s_15 h_s_15
    refine k_aload_n hC (pc := 59) dX9_passWeek_59 3 rfl ?_
    refine k_dup hC (pc := 60) dX9_passWeek_60 rfl ?_
    obtain ⟨c_16, h⟩ := h
    refine gf_X9_5 hC (pc := 61) c_16 fl_RX9_33 dX9_passWeek_61 ?_
    refine k_aload_n hC (pc := 64) dX9_passWeek_64 3 rfl ?_
    obtain ⟨c_17, h⟩ := h
    refine gf_X9_3 hC (pc := 65) c_17 fl_RX9_21 dX9_passWeek_65 ?_
    refine k_iload_n hC (pc := 68) dX9_passWeek_68 2 rfl ?_
    refine k_isub hC (pc := 69) dX9_passWeek_69 ?_
    refine k_iconst hC (pc := 70) (v := 4) dX9_passWeek_70 ic_4 ?_
    refine k_imul hC (pc := 71) dX9_passWeek_71 ?_
    refine k_iadd hC (pc := 72) dX9_passWeek_72 ?_
    obtain ⟨c_18, h⟩ := h
    refine pf_X9_5 hC (pc := 73) c_18 fl_RX9_33 dX9_passWeek_73 (fun s_19 h_s_19 => ?_)
    have h := h s_19 h_s_19
    refine k_aload_n hC (pc := 76) dX9_passWeek_76 3 rfl ?_
    refine k_dup hC (pc := 77) dX9_passWeek_77 rfl ?_
    obtain ⟨c_20, h⟩ := h
    refine gf_X9_6 hC (pc := 78) c_20 fl_RX9_36 dX9_passWeek_78 ?_
    refine k_iload_n hC (pc := 81) dX9_passWeek_81 2 rfl ?_
    refine k_iconst hC (pc := 82) (v := 4) dX9_passWeek_82 ic_4 ?_
    refine k_iload_n hC (pc := 83) dX9_passWeek_83 1 rfl ?_
    refine k_isub hC (pc := 84) dX9_passWeek_84 ?_
    refine k_imul hC (pc := 85) dX9_passWeek_85 ?_
    refine k_iadd hC (pc := 86) dX9_passWeek_86 ?_
    obtain ⟨c_21, h⟩ := h
    refine pf_X9_6 hC (pc := 87) c_21 fl_RX9_36 dX9_passWeek_87 (fun s_22 h_s_22 => ?_)
    have h := h s_22 h_s_22
    refine k_aload_n hC (pc := 90) dX9_passWeek_90 3 rfl ?_
    refine k_dup hC (pc := 91) dX9_passWeek_91 rfl ?_
    obtain ⟨c_23, h⟩ := h
    refine gf_X9_7 hC (pc := 92) c_23 fl_RX9_39 dX9_passWeek_92 ?_
    refine k_iload hC (pc := 95) dX9_passWeek_95 0 rfl ?_
    refine k_bipush hC (pc := 97) (v := 9) dX9_passWeek_97 bp_9 ?_
    refine k_iadd hC (pc := 99) dX9_passWeek_99 ?_
    refine k_bipush hC (pc := 100) (v := 10) dX9_passWeek_100 bp_10 ?_
    refine k_idiv hC (pc := 102) dX9_passWeek_102 (by decide) ?_
    refine k_bipush hC (pc := 103) (v := 10) dX9_passWeek_103 bp_10 ?_
    refine k_imul hC (pc := 105) dX9_passWeek_105 ?_
    refine k_iadd hC (pc := 106) dX9_passWeek_106 ?_
    obtain ⟨c_24, h⟩ := h
    refine pf_X9_7 hC (pc := 107) c_24 fl_RX9_39 dX9_passWeek_107 (fun s_25 h_s_25 => ?_)
    have h := h s_25 h_s_25
    refine k_iload hC (pc := 110) dX9_passWeek_110 0 rfl ?_
    exact k_iret hC (pc := 112) hQ hr dX9_passWeek_112 h
  · have h := h.2 c_3
    refine k_iconst hC (pc := 11) (v := 0) dX9_passWeek_11 ic_0 ?_
    exact k_iret hC (pc := 12) hQ hr dX9_passWeek_12 h
theorem ct_X9_passWeek {l : Launch} {G : Gx} {a : Ax} {s : Sx} {N : Nat} {post : Int32 → Sx → Prop} (p0 : Nat) (x1 : Int32) (h : w_X9_passWeek N p0 x1 s post) : Met l yX9_passWeek (Cond.code yX9_passWeek cX9_passWeek 5 (some .int) :: gw) { frames := 1, cells := 0, slots := 0, locals := 21 } (va_Pc [.ref (adr G a 3 p0), .int x1] (fun U => FU G a s U)) (Qi G a post) 0 0 (bs_ G) := met_of (plainFor_of_name (by decide)) (Nat.le_of_ble_eq_true rfl) rfl (fun X hC hl hR hQ hr hG hn => by subst hG; exact b_X9_passWeek hC hR hQ hr hn s p0 x1 h)
theorem ca_X9_passWeek : Ca yX9_passWeek cX9_passWeek 5 (some .int) 1 := ⟨cd_X9_passWeek, ii_RX9, by decide, by decide, by decide +kernel⟩
def w_X9_fact (N : Nat) (p0 : Nat) (x1 : Int32) (s : Sx) (post : Int32 → Sx → Prop) : Prop := (x1 = 0 → p0 < s.2.2 4 ∧ post (s.1 3 p0 0) s) ∧ (¬ (x1 = 0) → (x1 = 1 → p0 < s.2.2 4 ∧ post (s.1 3 p0 1) s) ∧ (¬ (x1 = 1) → (x1 = 2 → p0 < s.2.2 4 ∧ post (s.1 3 p0 4) s) ∧ (¬ (x1 = 2) → (x1 = 3 → p0 < s.2.2 4 ∧ post (s.1 3 p0 5) s) ∧ (¬ (x1 = 3) → (x1 = 4 → p0 < s.2.2 4 ∧ post (s.1 3 p0 6) s) ∧ (¬ (x1 = 4) → (x1 = 5 → p0 < s.2.2 4 ∧ post (s.1 3 p0 7) s) ∧ (¬ (x1 = 5) → post ((-2)) s))))))
set_option maxHeartbeats 4000000 in
theorem b_X9_fact {X : Kx} {a : Ax} {N : Nat} {post : Int32 → Sx → Prop} (hC : Cx X cX9_fact 2 RX9) (hR : X.R = { frames := 0, cells := 0, slots := 0, locals := 0 }) (hQ : X.Q = MQ X.below (Qi X.G a post) X.av X.s 0 0 (bs_ X.G)) (hr : X.meth.sig.returnType = (some .int)) (hn : X.meth.name = "fact") (s : Sx) (p0 : Nat) (x1 : Int32) (h : w_X9_fact N p0 x1 s post) : wk X a s 2 0 [(0, .ref (adr X.G a 3 p0)), (1, .int x1)] [] 0 0 := by
  unfold w_X9_fact at h
  refine k_iload_n hC (pc := 0) dX9_fact_0 1 rfl ?_
  by_cases c_2 : x1 = 0
  · have h := h.1 c_2
    refine k_tsIn hC (pc := 1) (x := x1) 40 dX9_fact_1 (by rw [c_2]; decide) (by rw [c_2]; decide) (by rw [c_2]; rfl) (by decide) ?_
    refine k_aload_n hC (pc := 40) dX9_fact_40 0 rfl ?_
    obtain ⟨c_1, h⟩ := h
    refine gf_X9_0 hC (pc := 41) c_1 fl_RX9_9 dX9_fact_41 ?_
    exact k_iret hC (pc := 44) hQ hr dX9_fact_44 h
  · have h := h.2 c_2
    by_cases c_4 : x1 = 1
    · have h := h.1 c_4
      refine k_tsIn hC (pc := 1) (x := x1) 45 dX9_fact_1 (by rw [c_4]; decide) (by rw [c_4]; decide) (by rw [c_4]; rfl) (by decide) ?_
      refine k_aload_n hC (pc := 45) dX9_fact_45 0 rfl ?_
      obtain ⟨c_3, h⟩ := h
      refine gf_X9_1 hC (pc := 46) c_3 fl_RX9_15 dX9_fact_46 ?_
      exact k_iret hC (pc := 49) hQ hr dX9_fact_49 h
    · have h := h.2 c_4
      by_cases c_6 : x1 = 2
      · have h := h.1 c_6
        refine k_tsIn hC (pc := 1) (x := x1) 50 dX9_fact_1 (by rw [c_6]; decide) (by rw [c_6]; decide) (by rw [c_6]; rfl) (by decide) ?_
        refine k_aload_n hC (pc := 50) dX9_fact_50 0 rfl ?_
        obtain ⟨c_5, h⟩ := h
        refine gf_X9_4 hC (pc := 51) c_5 fl_RX9_24 dX9_fact_51 ?_
        exact k_iret hC (pc := 54) hQ hr dX9_fact_54 h
      · have h := h.2 c_6
        by_cases c_8 : x1 = 3
        · have h := h.1 c_8
          refine k_tsIn hC (pc := 1) (x := x1) 55 dX9_fact_1 (by rw [c_8]; decide) (by rw [c_8]; decide) (by rw [c_8]; rfl) (by decide) ?_
          refine k_aload_n hC (pc := 55) dX9_fact_55 0 rfl ?_
          obtain ⟨c_7, h⟩ := h
          refine gf_X9_5 hC (pc := 56) c_7 fl_RX9_33 dX9_fact_56 ?_
          exact k_iret hC (pc := 59) hQ hr dX9_fact_59 h
        · have h := h.2 c_8
          by_cases c_10 : x1 = 4
          · have h := h.1 c_10
            refine k_tsIn hC (pc := 1) (x := x1) 60 dX9_fact_1 (by rw [c_10]; decide) (by rw [c_10]; decide) (by rw [c_10]; rfl) (by decide) ?_
            refine k_aload_n hC (pc := 60) dX9_fact_60 0 rfl ?_
            obtain ⟨c_9, h⟩ := h
            refine gf_X9_6 hC (pc := 61) c_9 fl_RX9_36 dX9_fact_61 ?_
            exact k_iret hC (pc := 64) hQ hr dX9_fact_64 h
          · have h := h.2 c_10
            by_cases c_12 : x1 = 5
            · have h := h.1 c_12
              refine k_tsIn hC (pc := 1) (x := x1) 65 dX9_fact_1 (by rw [c_12]; decide) (by rw [c_12]; decide) (by rw [c_12]; rfl) (by decide) ?_
              refine k_aload_n hC (pc := 65) dX9_fact_65 0 rfl ?_
              obtain ⟨c_11, h⟩ := h
              refine gf_X9_7 hC (pc := 66) c_11 fl_RX9_39 dX9_fact_66 ?_
              exact k_iret hC (pc := 69) hQ hr dX9_fact_69 h
            · have h := h.2 c_12
              refine k_tsOut hC (pc := 1) (x := x1) 70 dX9_fact_1 (ts_out6 c_2 c_4 c_6 c_8 c_10 c_12) (by decide) ?_
              refine k_bipush hC (pc := 70) (v := (-2)) dX9_fact_70 bp_m2 ?_
              exact k_iret hC (pc := 72) hQ hr dX9_fact_72 h
theorem ct_X9_fact {l : Launch} {G : Gx} {a : Ax} {s : Sx} {N : Nat} {post : Int32 → Sx → Prop} (p0 : Nat) (x1 : Int32) (h : w_X9_fact N p0 x1 s post) : Met l yX9_fact (Cond.code yX9_fact cX9_fact 2 (some .int) :: gw) { frames := 0, cells := 0, slots := 0, locals := 0 } (va_Pc [.ref (adr G a 3 p0), .int x1] (fun U => FU G a s U)) (Qi G a post) 0 0 (bs_ G) := met_of (plainFor_of_name (by decide)) (Nat.le_of_ble_eq_true rfl) rfl (fun X hC hl hR hQ hr hG hn => by subst hG; exact b_X9_fact hC hR hQ hr hn s p0 x1 h)
theorem ca_X9_fact : Ca yX9_fact cX9_fact 2 (some .int) 1 := ⟨cd_X9_fact, ii_RX9, by decide, by decide, by decide +kernel⟩
def w_X10_at (N : Nat) (x1 : Int32) (s : Sx) (post : Option Nat → Sx → Prop) : Prop := w_X11_isWithin N x1 0 7 s (fun r_2 s_1 => (r_2 = 0 → post none s_1) ∧ (¬ (r_2 = 0) → vp_in x1 8 ∧ (¬ x1.toNatClampNeg < s_1.2.2 5 → post none s_1) ∧ (x1.toNatClampNeg < s_1.2.2 5 → post (some x1.toNatClampNeg) s_1)))
set_option maxHeartbeats 4000000 in
theorem b_X10_at {X : Kx} {a : Ax} {N : Nat} {post : Option Nat → Sx → Prop} (hC : Cx X cX10_at 2 RX10) (hR : X.R = { frames := 1, cells := 0, slots := 0, locals := 22 }) (hQ : X.Q = MQ X.below (Qq X.G a 3 0 post) X.av X.s 0 0 (bs_ X.G)) (hr : X.meth.sig.returnType = (some (.object "CampYears$Work"))) (hn : X.meth.name = "at") (s : Sx) (x1 : Int32) (h : w_X10_at N x1 s post) : wk X a s 2 0 [(0, .ref (adr X.G a 0 14)), (1, .int x1)] [] 0 0 := by
  unfold w_X10_at at h
  refine k_iload_n hC (pc := 0) dX10_at_0 1 rfl ?_
  refine k_iconst hC (pc := 1) (v := 0) dX10_at_1 ic_0 ?_
  refine k_bipush hC (pc := 2) (v := 7) dX10_at_2 bp_7 ?_
  refine k_ci (rn_SN hC (pc := 4) (As := [.int x1, .int 0, .int 7]) (rest := []) ca_X11_isWithin nl_RX10_31 sm_X11_isWithin (ct_X11_isWithin x1 0 7 h) (by rw [hR]; exact ⟨rfl, rfl, by decide, by decide⟩) rfl (Nat.le_of_ble_eq_true rfl) dX10_at_4 ⟨by rw [hR]; decide, by rw [hR]; decide⟩) (fun r_2 s_1 h => ?_)
  refine k_if_eq hC (pc := 7) 19 dX10_at_7 (by decide) (fun c_3 => ?_) (fun c_3 => ?_)
  · have h := h.1 c_3
    refine k_null hC (pc := 19) dX10_at_19 ?_
    exact k_nret hC (pc := 20) hQ hr dX10_at_20 h
  · have h := h.2 c_3
    refine k_aload_n hC (pc := 10) dX10_at_10 0 rfl ?_
    refine gf_X10_0 hC (pc := 11)  fl_RX10_13 dX10_at_11 ?_
    refine k_iload_n hC (pc := 14) dX10_at_14 1 rfl ?_
    obtain ⟨c_4, h⟩ := h
    refine r_aldW hC (pc := 15) c_4 dX10_at_15 (fun c_5 => ?_) (fun c_5 => ?_)
    · have h := h.1 c_5
      refine k_goto hC (pc := 16) 20 dX10_at_16 (by decide) ?_
      exact k_nret hC (pc := 20) hQ hr dX10_at_20 h
    · have h := h.2 c_5
      refine k_goto hC (pc := 16) 20 dX10_at_16 (by decide) ?_
      exact k_rret0 hC (pc := 20) hQ hr dX10_at_20 h
theorem ct_X10_at {l : Launch} {G : Gx} {a : Ax} {s : Sx} {N : Nat} {post : Option Nat → Sx → Prop} (x1 : Int32) (h : w_X10_at N x1 s post) : Met l yX10_at (Cond.code yX10_at cX10_at 2 (some (.object "CampYears$Work")) :: gw) { frames := 1, cells := 0, slots := 0, locals := 22 } (va_Pc [.ref (adr G a 0 14), .int x1] (fun U => FU G a s U)) (Qq G a 3 0 post) 0 0 (bs_ G) := met_of (plainFor_of_name (by decide)) (Nat.le_of_ble_eq_true rfl) rfl (fun X hC hl hR hQ hr hG hn => by subst hG; exact b_X10_at hC hR hQ hr hn s x1 h)
theorem ca_X10_at : Ca yX10_at cX10_at 2 (some (.object "CampYears$Work")) 1 := ⟨cd_X10_at, ii_RX10, by decide, by decide, by decide +kernel⟩
def w_X10_add (N : Nat) (x1 : Int32) (x2 : Int32) (x3 : Int32) (s : Sx) (post : Int32 → Sx → Prop) : Prop := ((s.1 0 14 1) < 8 → s.2.2 5 ≤ s.2.2 4 ∧ ∀ s_2, s_2 = newD s 3 4 → w_X9_init N (s.2.2 4) x1 x2 x3 s_2 (fun s_5 => (s.2.2 4) < s_5.2.2 4 ∧ (s.1 0 14 1).toNatClampNeg = s_5.2.2 5 ∧ (s.2.2 4) = s_5.2.2 5 ∧ vp_in (s.1 0 14 1) 8 ∧ ∀ s_10, s_10 = setN s_5 5 (s_5.2.2 5 + 1) → ∀ s_11, s_11 = setI s_10 0 14 1 ((s_10.1 0 14 1) + 1) → post ((s_11.1 0 14 1) - 1) s_11)) ∧ (¬ ((s.1 0 14 1) < 8) → post ((-4)) s)
set_option maxHeartbeats 4000000 in
theorem b_X10_add {X : Kx} {a : Ax} {N : Nat} {post : Int32 → Sx → Prop} (hC : Cx X cX10_add 4 RX10) (hR : X.R = { frames := 2, cells := 1, slots := 8, locals := 43 }) (hQ : X.Q = MQ X.below (Qa X.G post) X.av X.s 1 8 (bs_ X.G)) (hr : X.meth.sig.returnType = (some .int)) (hn : X.meth.name = "add") (s : Sx) (x1 : Int32) (x2 : Int32) (x3 : Int32) (h : w_X10_add N x1 x2 x3 s post) : wk X a s 4 0 [(0, .ref (adr X.G a 0 14)), (1, .int x1), (2, .int x2), (3, .int x3)] [] 0 0 := by
  unfold w_X10_add at h
  refine k_aload_n hC (pc := 0) dX10_add_0 0 rfl ?_
  refine gf_X10_1 hC (pc := 1)  fl_RX10_35 dX10_add_1 ?_
  refine k_bipush hC (pc := 4) (v := 8) dX10_add_4 bp_8 ?_
  refine k_icmp_lt hC (pc := 6) 12 dX10_add_6 (by decide) (fun c_1 => ?_) (fun c_1 => ?_)
  · have h := h.1 c_1
    refine k_aload_n hC (pc := 12) dX10_add_12 0 rfl ?_
    refine gf_X10_0 hC (pc := 13)  fl_RX10_13 dX10_add_13 ?_
    refine k_aload_n hC (pc := 16) dX10_add_16 0 rfl ?_
    refine gf_X10_1 hC (pc := 17)  fl_RX10_35 dX10_add_17 ?_
    obtain ⟨c_4, h⟩ := h
    refine r_newX9 hC (pc := 20) c_4 cl_RX10_11 (by rw [hR]; decide) (by rw [hR]; decide) dX10_add_20 (fun a_3 h_a_3 s_2 h_s_2 => ?_)
    obtain ⟨q_a_3, rfl⟩ := h_a_3
    have h := h s_2 h_s_2
    refine k_dup hC (pc := 23) dX10_add_23 rfl ?_
    refine k_iload_n hC (pc := 24) dX10_add_24 1 rfl ?_
    refine k_iload_n hC (pc := 25) dX10_add_25 2 rfl ?_
    refine k_iload_n hC (pc := 26) dX10_add_26 3 rfl ?_
    refine k_cv (rn_I hC (pc := 27) (As := [.int x1, .int x2, .int x3]) (rest := [.ref (adr X.G (a.1, a.2.1, va_up a.2.2.1 (s.2.2 4) q_a_3, a.2.2.2) 3 (s.2.2 4)), .int (s.1 0 14 1), .ref (adr X.G a 0 15)]) ca_X9_init rfl ml_RX10_38 im_X9_init (ct_X9_init (s.2.2 4) x1 x2 x3 h) (by rw [hR]; exact ⟨rfl, rfl, by decide, by decide⟩) rfl (Nat.le_of_ble_eq_true rfl) dX10_add_27 ⟨by rw [hR]; decide, by rw [hR]; decide⟩) (fun s_5 h => ?_)
    obtain ⟨c_6, c_7, c_8, c_9, h⟩ := h
    refine r_astW hC (pc := 30) c_6 c_7 c_8 c_9 dX10_add_30 (fun s_10 h_s_10 => ?_)
    have h := h s_10 h_s_10
    refine k_aload_n hC (pc := 31) dX10_add_31 0 rfl ?_
    refine k_dup hC (pc := 32) dX10_add_32 rfl ?_
    refine gf_X10_1 hC (pc := 33)  fl_RX10_35 dX10_add_33 ?_
    refine k_iconst hC (pc := 36) (v := 1) dX10_add_36 ic_1 ?_
    refine k_iadd hC (pc := 37) dX10_add_37 ?_
    refine pf_X10_1 hC (pc := 38)  fl_RX10_35 dX10_add_38 (fun s_11 h_s_11 => ?_)
    have h := h s_11 h_s_11
    refine k_aload_n hC (pc := 41) dX10_add_41 0 rfl ?_
    refine gf_X10_1 hC (pc := 42)  fl_RX10_35 dX10_add_42 ?_
    refine k_iconst hC (pc := 45) (v := 1) dX10_add_45 ic_1 ?_
    refine k_isub hC (pc := 46) dX10_add_46 ?_
    exact k_aret hC (pc := 47) hQ hr dX10_add_47 h
  · have h := h.2 c_1
    refine k_bipush hC (pc := 9) (v := (-4)) dX10_add_9 bp_m4 ?_
    refine k_widen 1 8 (by decide) (by decide) ?_
    exact k_aret hC (pc := 11) hQ hr dX10_add_11 h
theorem ct_X10_add {l : Launch} {G : Gx} {a : Ax} {s : Sx} {N : Nat} {post : Int32 → Sx → Prop} (x1 : Int32) (x2 : Int32) (x3 : Int32) (h : w_X10_add N x1 x2 x3 s post) : Met l yX10_add (Cond.code yX10_add cX10_add 4 (some .int) :: gw) { frames := 2, cells := 1, slots := 8, locals := 43 } (va_Pc [.ref (adr G a 0 14), .int x1, .int x2, .int x3] (fun U => FU G a s U)) (Qa G post) 1 8 (bs_ G) := met_of (plainFor_of_name (by decide)) (Nat.le_of_ble_eq_true rfl) rfl (fun X hC hl hR hQ hr hG hn => by subst hG; exact b_X10_add hC hR hQ hr hn s x1 x2 x3 h)
theorem ca_X10_add : Ca yX10_add cX10_add 4 (some .int) 3 := ⟨cd_X10_add, ii_RX10, by decide, by decide, by decide +kernel⟩
def w_X10_takeWeather (N : Nat) (k1 : Nat) (x2 : Int32) (x3 : Int32) (s : Sx) (post : Int32 → Sx → Prop) : Prop := k1 < 4 ∧ w_X11_isWithin N x3 1 8 s (fun r_2 s_1 => (r_2 = 0 → post 0 s_1) ∧ (¬ (r_2 = 0) → w_X7_areWithin N k1 x2 x3 2 s_1 (fun r_5 s_4 => (¬ r_5 = 0 → w_X7_copyTo N k1 16 8 x2 x3 s_4 (fun s_7 => ∀ s_8, s_8 = setI s_7 0 14 3 x3 → post 1 s_8)) ∧ (¬ (¬ r_5 = 0) → post 0 s_4))))
set_option maxHeartbeats 4000000 in
theorem b_X10_takeWeather {X : Kx} {a : Ax} {N : Nat} {post : Int32 → Sx → Prop} (hC : Cx X cX10_takeWeather 4 RX10) (hR : X.R = { frames := 3, cells := 0, slots := 0, locals := 67 }) (hQ : X.Q = MQ X.below (Qi X.G a post) X.av X.s 0 0 (bs_ X.G)) (hr : X.meth.sig.returnType = (some .boolean)) (hn : X.meth.name = "takeWeather") (s : Sx) (k1 : Nat) (x2 : Int32) (x3 : Int32) (h : w_X10_takeWeather N k1 x2 x3 s post) : wk X a s 4 0 [(0, .ref (adr X.G a 0 14)), (1, .ref (adr X.G a 0 (42 + k1))), (2, .int x2), (3, .int x3)] [] 0 0 := by
  unfold w_X10_takeWeather at h
  obtain ⟨hk1, h⟩ := h
  refine k_iload_n hC (pc := 0) dX10_takeWeather_0 3 rfl ?_
  refine k_iconst hC (pc := 1) (v := 1) dX10_takeWeather_1 ic_1 ?_
  refine k_bipush hC (pc := 2) (v := 8) dX10_takeWeather_2 bp_8 ?_
  refine k_ci (rn_SN hC (pc := 4) (As := [.int x3, .int 1, .int 8]) (rest := []) ca_X11_isWithin nl_RX10_31 sm_X11_isWithin (ct_X11_isWithin x3 1 8 h) (by rw [hR]; exact ⟨rfl, rfl, by decide, by decide⟩) rfl (Nat.le_of_ble_eq_true rfl) dX10_takeWeather_4 ⟨by rw [hR]; decide, by rw [hR]; decide⟩) (fun r_2 s_1 h => ?_)
  refine k_if_eq hC (pc := 7) 20 dX10_takeWeather_7 (by decide) (fun c_3 => ?_) (fun c_3 => ?_)
  · have h := h.1 c_3
    refine k_iconst hC (pc := 20) (v := 0) dX10_takeWeather_20 ic_0 ?_
    exact k_zret hC (pc := 21) hQ hr dX10_takeWeather_21 (Or.inl rfl) h
  · have h := h.2 c_3
    refine k_aload_n hC (pc := 10) dX10_takeWeather_10 1 rfl ?_
    refine k_iload_n hC (pc := 11) dX10_takeWeather_11 2 rfl ?_
    refine k_iload_n hC (pc := 12) dX10_takeWeather_12 3 rfl ?_
    refine k_iconst hC (pc := 13) (v := 2) dX10_takeWeather_13 ic_2 ?_
    refine k_ci (rn_V hC (pc := 14) (As := [.int x2, .int x3, .int 2]) (rest := []) ca_X7_areWithin ml_RX10_41 im_X7_areWithin se_X7_areWithin (fx_in (sh_f hk1)) (sh_o hk1 _ _ _ _ _) rfl rfl (ct_X7_areWithin k1 x2 x3 2 h) (by rw [hR]; exact ⟨rfl, rfl, by decide, by decide⟩) rfl (Nat.le_of_ble_eq_true rfl) dX10_takeWeather_14 ⟨by rw [hR]; decide, by rw [hR]; decide⟩) (fun r_5 s_4 h => ?_)
    refine k_if_ne hC (pc := 17) 22 dX10_takeWeather_17 (by decide) (fun c_6 => ?_) (fun c_6 => ?_)
    · have h := h.1 c_6
      refine k_aload_n hC (pc := 22) dX10_takeWeather_22 1 rfl ?_
      refine k_aload_n hC (pc := 23) dX10_takeWeather_23 0 rfl ?_
      refine gf_X10_2 hC (pc := 24)  fl_RX10_17 dX10_takeWeather_24 ?_
      refine k_iload_n hC (pc := 27) dX10_takeWeather_27 2 rfl ?_
      refine k_iload_n hC (pc := 28) dX10_takeWeather_28 3 rfl ?_
      refine k_cv (rn_V hC (pc := 29) (As := [.ref (adr X.G a 0 16), .int x2, .int x3]) (rest := []) ca_X7_copyTo ml_RX10_46 im_X7_copyTo se_X7_copyTo (fx_in (sh_f hk1)) (sh_o hk1 _ _ _ _ _) rfl rfl (ct_X7_copyTo k1 16 8 x2 x3 ra0_16 h) (by rw [hR]; exact ⟨rfl, rfl, by decide, by decide⟩) rfl (Nat.le_of_ble_eq_true rfl) dX10_takeWeather_29 ⟨by rw [hR]; decide, by rw [hR]; decide⟩) (fun s_7 h => ?_)
      refine k_aload_n hC (pc := 32) dX10_takeWeather_32 0 rfl ?_
      refine k_iload_n hC (pc := 33) dX10_takeWeather_33 3 rfl ?_
      refine pf_X10_3 hC (pc := 34)  fl_RX10_21 dX10_takeWeather_34 (fun s_8 h_s_8 => ?_)
      have h := h s_8 h_s_8
      refine k_iconst hC (pc := 37) (v := 1) dX10_takeWeather_37 ic_1 ?_
      exact k_zret hC (pc := 38) hQ hr dX10_takeWeather_38 (Or.inr rfl) h
    · have h := h.2 c_6
      refine k_iconst hC (pc := 20) (v := 0) dX10_takeWeather_20 ic_0 ?_
      exact k_zret hC (pc := 21) hQ hr dX10_takeWeather_21 (Or.inl rfl) h
theorem ct_X10_takeWeather {l : Launch} {G : Gx} {a : Ax} {s : Sx} {N : Nat} {post : Int32 → Sx → Prop} (k1 : Nat) (x2 : Int32) (x3 : Int32) (h : w_X10_takeWeather N k1 x2 x3 s post) : Met l yX10_takeWeather (Cond.code yX10_takeWeather cX10_takeWeather 4 (some .boolean) :: gw) { frames := 3, cells := 0, slots := 0, locals := 67 } (va_Pc [.ref (adr G a 0 14), .ref (adr G a 0 (42 + k1)), .int x2, .int x3] (fun U => FU G a s U)) (Qi G a post) 0 0 (bs_ G) := met_of (plainFor_of_name (by decide)) (Nat.le_of_ble_eq_true rfl) rfl (fun X hC hl hR hQ hr hG hn => by subst hG; exact b_X10_takeWeather hC hR hQ hr hn s k1 x2 x3 h)
theorem ca_X10_takeWeather : Ca yX10_takeWeather cX10_takeWeather 4 (some .boolean) 3 := ⟨cd_X10_takeWeather, ii_RX10, by decide, by decide, by decide +kernel⟩
def w_X10_passWeek_41 (N : Nat) (post : Int32 → Sx → Prop) : Nat → Sx → Int32 → Int32 → Int32 → Int32 → Prop
  | 0, _, _, _, _, _ => False
  | n + 1, s, x1, x2, x4, x5 => (x4 ≤ x5 → post x2 s) ∧ (¬ (x4 ≤ x5) → vp_in x5 8 ∧ (¬ x5.toNatClampNeg < s.2.2 5 → ∀ x_9 : Int32, x_9 = x5 + 1 → w_X10_passWeek_41 N post n s x1 x2 x4 x_9) ∧ (x5.toNatClampNeg < s.2.2 5 → x5.toNatClampNeg < s.2.2 4 ∧ w_X9_passWeek N x5.toNatClampNeg x1 s (fun r_11 s_10 => ∀ x_12 : Int32, x_12 = x2 + r_11 → ∀ x_13 : Int32, x_13 = x5 + 1 → w_X10_passWeek_41 N post n s_10 x1 x_12 x4 x_13)))
def w_X10_passWeek (N : Nat) (s : Sx) (post : Int32 → Sx → Prop) : Prop := w_X11_remainder N (s.1 0 14 4) (s.1 0 14 3) s (fun r_2 s_1 => vp_in r_2 8 ∧ ∀ x_4 : Int32, x_4 = s_1.1 0 16 r_2.toNatClampNeg → ∀ s_5, s_5 = setI s_1 0 14 4 ((s_1.1 0 14 4) + 1) → w_X10_passWeek_41 N post N s_5 x_4 0 8 0)
set_option maxHeartbeats 4000000 in
theorem b_X10_passWeek_41 {X : Kx} {a : Ax} {N : Nat} {post : Int32 → Sx → Prop}  (hC : Cx X cX10_passWeek 7 RX10) (hR : X.R = { frames := 2, cells := 0, slots := 0, locals := 45 }) (hQ : X.Q = MQ X.below (Qi X.G a post) X.av X.s 0 0 (bs_ X.G)) (hr : X.meth.sig.returnType = (some .int))   : ∀ (n : Nat) (s : Sx) (x1 : Int32) (x2 : Int32) (x4 : Int32) (x5 : Int32), w_X10_passWeek_41 N post  n s x1 x2 x4 x5 → wk X a s 7 41 [(1, .int x1), (2, .int x2), (3, .ref (adr X.G a 0 15)), (4, .int x4), (5, .int x5)] [] 0 0 := by
  intro n
  induction n with
  | zero => intro s x1 x2 x4 x5 h; exact h.elim
  | succ n ih =>
    intro s x1 x2 x4 x5 h
    unfold w_X10_passWeek_41 at h
    refine k_iload hC (pc := 41) dX10_passWeek_41 4 rfl ?_
    refine k_iload hC (pc := 43) dX10_passWeek_43 3 rfl ?_
    refine k_icmp_ge hC (pc := 45) 74 dX10_passWeek_45 (by decide) (fun c_6 => ?_) (fun c_6 => ?_)
    · have h := h.1 c_6
      refine k_iload_n hC (pc := 74) dX10_passWeek_74 1 rfl ?_
      exact k_iret hC (pc := 75) hQ hr dX10_passWeek_75 h
    · have h := h.2 c_6
      refine k_aload_n hC (pc := 48) dX10_passWeek_48 2 rfl ?_
      refine k_iload hC (pc := 49) dX10_passWeek_49 4 rfl ?_
      obtain ⟨c_7, h⟩ := h
      refine r_aldW hC (pc := 51) c_7 dX10_passWeek_51 (fun c_8 => ?_) (fun c_8 => ?_)
      · have h := h.1 c_8
        refine k_astoreN hC (pc := 52) dX10_passWeek_52 [(6, .null), (1, .int x1), (2, .int x2), (3, .ref (adr X.G a 0 15)), (4, .int x4), (5, .int x5)] (by decide) rfl ?_
        refine k_aloadN hC (pc := 54) dX10_passWeek_54 0 rfl ?_
        refine k_ifnullN hC (pc := 56) 68 dX10_passWeek_56 (by decide) ?_
        obtain ⟨x_9, h_x_9⟩ : ∃ z : Int32, z = x5 + 1 := ⟨_, rfl⟩
        have h := h x_9 h_x_9
        refine k_iincw hC (pc := 68) dX10_passWeek_68 5 rfl ic_1 h_x_9.symm [(5, .int x_9), (6, .null), (1, .int x1), (2, .int x2), (3, .ref (adr X.G a 0 15)), (4, .int x4)] (by decide) rfl ?_
        refine k_goto hC (pc := 71) 41 dX10_passWeek_71 (by decide) ?_
        refine k_sub [(1, .int x1), (2, .int x2), (3, .ref (adr X.G a 0 15)), (4, .int x4), (5, .int x_9)] [2, 3, 4, 5, 0] rfl ?_
        exact ih _ _ _ _ _ h
      · have h := h.2 c_8
        refine k_astore hC (pc := 52) dX10_passWeek_52 [(6, .ref (adr X.G a 3 x5.toNatClampNeg)), (1, .int x1), (2, .int x2), (3, .ref (adr X.G a 0 15)), (4, .int x4), (5, .int x5)] (by decide) rfl ?_
        refine k_aload hC (pc := 54) dX10_passWeek_54 0 rfl ?_
        refine k_ifnull hC (pc := 56) dX10_passWeek_56 ?_
        refine k_iload_n hC (pc := 59) dX10_passWeek_59 2 rfl ?_
        refine k_aload hC (pc := 60) dX10_passWeek_60 0 rfl ?_
        refine k_iload_n hC (pc := 62) dX10_passWeek_62 1 rfl ?_
        refine k_ci (rn_V hC (pc := 63) (As := [.int x1]) (rest := [.int x2]) ca_X9_passWeek ml_RX10_57 im_X9_passWeek se_X9_passWeek (wx_in h.1) (ob3 _ _ _ _ _ _) rfl rfl (ct_X9_passWeek x5.toNatClampNeg x1 h.2) (by rw [hR]; exact ⟨rfl, rfl, by decide, by decide⟩) rfl (Nat.le_of_ble_eq_true rfl) dX10_passWeek_63 ⟨by rw [hR]; decide, by rw [hR]; decide⟩) (fun r_11 s_10 h => ?_)
        refine k_iadd hC (pc := 66) dX10_passWeek_66 ?_
        refine k_topi (fun x_12 h_x_12 => ?_)
        have h := h x_12 h_x_12
        refine k_istore_n hC (pc := 67) dX10_passWeek_67 [(2, .int x_12), (6, .ref (adr X.G a 3 x5.toNatClampNeg)), (1, .int x1), (3, .ref (adr X.G a 0 15)), (4, .int x4), (5, .int x5)] (by decide) rfl ?_
        obtain ⟨x_13, h_x_13⟩ : ∃ z : Int32, z = x5 + 1 := ⟨_, rfl⟩
        have h := h x_13 h_x_13
        refine k_iincw hC (pc := 68) dX10_passWeek_68 5 rfl ic_1 h_x_13.symm [(5, .int x_13), (2, .int x_12), (6, .ref (adr X.G a 3 x5.toNatClampNeg)), (1, .int x1), (3, .ref (adr X.G a 0 15)), (4, .int x4)] (by decide) rfl ?_
        refine k_goto hC (pc := 71) 41 dX10_passWeek_71 (by decide) ?_
        refine k_sub [(1, .int x1), (2, .int x_12), (3, .ref (adr X.G a 0 15)), (4, .int x4), (5, .int x_13)] [3, 1, 4, 5, 0] rfl ?_
        exact ih _ _ _ _ _ h
set_option maxHeartbeats 4000000 in
theorem b_X10_passWeek {X : Kx} {a : Ax} {N : Nat} {post : Int32 → Sx → Prop} (hC : Cx X cX10_passWeek 7 RX10) (hR : X.R = { frames := 2, cells := 0, slots := 0, locals := 45 }) (hQ : X.Q = MQ X.below (Qi X.G a post) X.av X.s 0 0 (bs_ X.G)) (hr : X.meth.sig.returnType = (some .int)) (hn : X.meth.name = "passWeek") (s : Sx) (h : w_X10_passWeek N s post) : wk X a s 7 0 [(0, .ref (adr X.G a 0 14))] [] 0 0 := by
  unfold w_X10_passWeek at h
  refine k_aload_n hC (pc := 0) dX10_passWeek_0 0 rfl ?_
  refine gf_X10_2 hC (pc := 1)  fl_RX10_17 dX10_passWeek_1 ?_
  refine k_aload_n hC (pc := 4) dX10_passWeek_4 0 rfl ?_
  refine gf_X10_4 hC (pc := 5)  fl_RX10_50 dX10_passWeek_5 ?_
  refine k_aload_n hC (pc := 8) dX10_passWeek_8 0 rfl ?_
  refine gf_X10_3 hC (pc := 9)  fl_RX10_21 dX10_passWeek_9 ?_
  refine k_ci (rn_SN hC (pc := 12) (As := [.int (s.1 0 14 4), .int (s.1 0 14 3)]) (rest := [.ref (adr X.G a 0 16)]) ca_X11_remainder nl_RX10_53 sm_X11_remainder (ct_X11_remainder (s.1 0 14 4) (s.1 0 14 3) h) (by rw [hR]; exact ⟨rfl, rfl, by decide, by decide⟩) rfl (Nat.le_of_ble_eq_true rfl) dX10_passWeek_12 ⟨by rw [hR]; decide, by rw [hR]; decide⟩) (fun r_2 s_1 h => ?_)
  obtain ⟨c_3, h⟩ := h
  refine r_iald hC (pc := 15) ra0_16 c_3 dX10_passWeek_15 ?_
  refine k_topi (fun x_4 h_x_4 => ?_)
  have h := h x_4 h_x_4
  refine k_istore_n hC (pc := 16) dX10_passWeek_16 [(1, .int x_4), (0, .ref (adr X.G a 0 14))] (by decide) rfl ?_
  refine k_aload_n hC (pc := 17) dX10_passWeek_17 1 rfl ?_
  refine k_dup hC (pc := 18) dX10_passWeek_18 rfl ?_
  refine gf_X10_4 hC (pc := 19)  fl_RX10_50 dX10_passWeek_19 ?_
  refine k_iconst hC (pc := 22) (v := 1) dX10_passWeek_22 ic_1 ?_
  refine k_iadd hC (pc := 23) dX10_passWeek_23 ?_
  refine pf_X10_4 hC (pc := 24)  fl_RX10_50 dX10_passWeek_24 (fun s_5 h_s_5 => ?_)
  have h := h s_5 h_s_5
  refine k_iconst hC (pc := 27) (v := 0) dX10_passWeek_27 ic_0 ?_
  refine k_istore_n hC (pc := 28) dX10_passWeek_28 [(2, .int 0), (1, .int x_4), (0, .ref (adr X.G a 0 14))] (by decide) rfl ?_
  refine k_aload_n hC (pc := 29) dX10_passWeek_29 2 rfl ?_
  refine gf_X10_0 hC (pc := 30)  fl_RX10_13 dX10_passWeek_30 ?_
  refine k_astore_n hC (pc := 33) dX10_passWeek_33 [(3, .ref (adr X.G a 0 15)), (2, .int 0), (1, .int x_4), (0, .ref (adr X.G a 0 14))] (by decide) rfl ?_
  refine k_aload_n hC (pc := 34) dX10_passWeek_34 0 rfl ?_
  refine r_lenW hC (pc := 35) dX10_passWeek_35 ?_
  refine k_istore hC (pc := 36) dX10_passWeek_36 [(4, .int 8), (3, .ref (adr X.G a 0 15)), (2, .int 0), (1, .int x_4), (0, .ref (adr X.G a 0 14))] (by decide) rfl ?_
  refine k_iconst hC (pc := 38) (v := 0) dX10_passWeek_38 ic_0 ?_
  refine k_istore hC (pc := 39) dX10_passWeek_39 [(5, .int 0), (4, .int 8), (3, .ref (adr X.G a 0 15)), (2, .int 0), (1, .int x_4), (0, .ref (adr X.G a 0 14))] (by decide) rfl ?_
  refine k_sub [(1, .int x_4), (2, .int 0), (3, .ref (adr X.G a 0 15)), (4, .int 8), (5, .int 0)] [4, 3, 2, 1, 0] rfl ?_
  exact b_X10_passWeek_41 hC hR hQ hr N _ _ _ _ _ h
theorem ct_X10_passWeek {l : Launch} {G : Gx} {a : Ax} {s : Sx} {N : Nat} {post : Int32 → Sx → Prop} (h : w_X10_passWeek N s post) : Met l yX10_passWeek (Cond.code yX10_passWeek cX10_passWeek 7 (some .int) :: gw) { frames := 2, cells := 0, slots := 0, locals := 45 } (va_Pc [.ref (adr G a 0 14)] (fun U => FU G a s U)) (Qi G a post) 0 0 (bs_ G) := met_of (plainFor_of_name (by decide)) (Nat.le_of_ble_eq_true rfl) rfl (fun X hC hl hR hQ hr hG hn => by subst hG; exact b_X10_passWeek hC hR hQ hr hn s h)
theorem ca_X10_passWeek : Ca yX10_passWeek cX10_passWeek 7 (some .int) 0 := ⟨cd_X10_passWeek, ii_RX10, by decide, by decide, by decide +kernel⟩
def w_X10_changeLevel_25 (N : Nat) (post : Int32 → Sx → Prop) (s : Sx) (x1 : Int32) (x2 : Int32) (x3 : Int32) (z0 : Int32) : Prop := vp_in x1 5 ∧ ∀ s_4, s_4 = setI s 0 17 x1.toNatClampNeg x2 → vp_in x1 5 ∧ ∀ s_6, s_6 = setI s_4 0 18 x1.toNatClampNeg x3 → (z0 = 0 ∨ z0 = 1) ∧ post z0 s_6
def w_X10_changeLevel_20 (N : Nat) (post : Int32 → Sx → Prop) (s : Sx) (x1 : Int32) (x2 : Int32) (x3 : Int32) : Prop := w_X10_changeLevel_25 N post s x1 x2 x3 1
def w_X10_changeLevel (N : Nat) (x1 : Int32) (x2 : Int32) (x3 : Int32) (s : Sx) (post : Int32 → Sx → Prop) : Prop := vp_in x1 5 ∧ (¬ x2 = (s.1 0 17 x1.toNatClampNeg) → w_X10_changeLevel_20 N post s x1 x2 x3) ∧ (¬ (¬ x2 = (s.1 0 17 x1.toNatClampNeg)) → vp_in x1 5 ∧ (x3 = (s.1 0 18 x1.toNatClampNeg) → w_X10_changeLevel_25 N post s x1 x2 x3 0) ∧ (¬ (x3 = (s.1 0 18 x1.toNatClampNeg)) → w_X10_changeLevel_20 N post s x1 x2 x3))
set_option maxHeartbeats 4000000 in
theorem b_X10_changeLevel_25 {X : Kx} {a : Ax} {N : Nat} {post : Int32 → Sx → Prop}  (hC : Cx X cX10_changeLevel 5 RX10) (hR : X.R = { frames := 0, cells := 0, slots := 0, locals := 0 }) (hQ : X.Q = MQ X.below (Qi X.G a post) X.av X.s 0 0 (bs_ X.G)) (hr : X.meth.sig.returnType = (some .boolean))   (s : Sx) (x1 : Int32) (x2 : Int32) (x3 : Int32) (z0 : Int32) (h : w_X10_changeLevel_25 N post  s x1 x2 x3 z0) : wk X a s 5 25 [(0, .ref (adr X.G a 0 14)), (1, .int x1), (2, .int x2), (3, .int x3)] [.int z0] 0 0 := by
  unfold w_X10_changeLevel_25 at h
  refine k_istore hC (pc := 25) dX10_changeLevel_25 [(4, .int z0), (0, .ref (adr X.G a 0 14)), (1, .int x1), (2, .int x2), (3, .int x3)] (by decide) rfl ?_
  refine k_aload_n hC (pc := 27) dX10_changeLevel_27 1 rfl ?_
  refine gf_X10_5 hC (pc := 28)  fl_RX10_25 dX10_changeLevel_28 ?_
  refine k_iload_n hC (pc := 31) dX10_changeLevel_31 2 rfl ?_
  refine k_iload_n hC (pc := 32) dX10_changeLevel_32 3 rfl ?_
  obtain ⟨c_3, h⟩ := h
  refine r_iast hC (pc := 33) ra0_17 c_3 dX10_changeLevel_33 (fun s_4 h_s_4 => ?_)
  have h := h s_4 h_s_4
  refine k_aload_n hC (pc := 34) dX10_changeLevel_34 1 rfl ?_
  refine gf_X10_6 hC (pc := 35)  fl_RX10_28 dX10_changeLevel_35 ?_
  refine k_iload_n hC (pc := 38) dX10_changeLevel_38 2 rfl ?_
  refine k_iload_n hC (pc := 39) dX10_changeLevel_39 4 rfl ?_
  obtain ⟨c_5, h⟩ := h
  refine r_iast hC (pc := 40) ra0_18 c_5 dX10_changeLevel_40 (fun s_6 h_s_6 => ?_)
  have h := h s_6 h_s_6
  refine k_iload hC (pc := 41) dX10_changeLevel_41 0 rfl ?_
  obtain ⟨c_7, h⟩ := h
  exact k_zret hC (pc := 43) hQ hr dX10_changeLevel_43 c_7 h
set_option maxHeartbeats 4000000 in
theorem b_X10_changeLevel_20 {X : Kx} {a : Ax} {N : Nat} {post : Int32 → Sx → Prop}  (hC : Cx X cX10_changeLevel 5 RX10) (hR : X.R = { frames := 0, cells := 0, slots := 0, locals := 0 }) (hQ : X.Q = MQ X.below (Qi X.G a post) X.av X.s 0 0 (bs_ X.G)) (hr : X.meth.sig.returnType = (some .boolean))   (s : Sx) (x1 : Int32) (x2 : Int32) (x3 : Int32) (h : w_X10_changeLevel_20 N post  s x1 x2 x3) : wk X a s 5 20 [(0, .ref (adr X.G a 0 14)), (1, .int x1), (2, .int x2), (3, .int x3)] [] 0 0 := by
  unfold w_X10_changeLevel_20 at h
  refine k_iconst hC (pc := 20) (v := 1) dX10_changeLevel_20 ic_1 ?_
  refine k_goto hC (pc := 21) 25 dX10_changeLevel_21 (by decide) ?_
  exact b_X10_changeLevel_25 hC hR hQ hr _ _ _ _ _ h
set_option maxHeartbeats 4000000 in
theorem b_X10_changeLevel {X : Kx} {a : Ax} {N : Nat} {post : Int32 → Sx → Prop} (hC : Cx X cX10_changeLevel 5 RX10) (hR : X.R = { frames := 0, cells := 0, slots := 0, locals := 0 }) (hQ : X.Q = MQ X.below (Qi X.G a post) X.av X.s 0 0 (bs_ X.G)) (hr : X.meth.sig.returnType = (some .boolean)) (hn : X.meth.name = "changeLevel") (s : Sx) (x1 : Int32) (x2 : Int32) (x3 : Int32) (h : w_X10_changeLevel N x1 x2 x3 s post) : wk X a s 5 0 [(0, .ref (adr X.G a 0 14)), (1, .int x1), (2, .int x2), (3, .int x3)] [] 0 0 := by
  unfold w_X10_changeLevel at h
  refine k_iload_n hC (pc := 0) dX10_changeLevel_0 2 rfl ?_
  refine k_aload_n hC (pc := 1) dX10_changeLevel_1 0 rfl ?_
  refine gf_X10_5 hC (pc := 2)  fl_RX10_25 dX10_changeLevel_2 ?_
  refine k_iload_n hC (pc := 5) dX10_changeLevel_5 1 rfl ?_
  obtain ⟨c_1, h⟩ := h
  refine r_iald hC (pc := 6) ra0_17 c_1 dX10_changeLevel_6 ?_
  refine k_icmp_ne hC (pc := 7) 20 dX10_changeLevel_7 (by decide) (fun c_2 => ?_) (fun c_2 => ?_)
  · have h := h.1 c_2
    exact b_X10_changeLevel_20 hC hR hQ hr _ _ _ _ h
  · have h := h.2 c_2
    refine k_iload_n hC (pc := 10) dX10_changeLevel_10 3 rfl ?_
    refine k_aload_n hC (pc := 11) dX10_changeLevel_11 0 rfl ?_
    refine gf_X10_6 hC (pc := 12)  fl_RX10_28 dX10_changeLevel_12 ?_
    refine k_iload_n hC (pc := 15) dX10_changeLevel_15 1 rfl ?_
    obtain ⟨c_8, h⟩ := h
    refine r_iald hC (pc := 16) ra0_18 c_8 dX10_changeLevel_16 ?_
    refine k_icmp_eq hC (pc := 17) 24 dX10_changeLevel_17 (by decide) (fun c_9 => ?_) (fun c_9 => ?_)
    · have h := h.1 c_9
      refine k_iconst hC (pc := 24) (v := 0) dX10_changeLevel_24 ic_0 ?_
      exact b_X10_changeLevel_25 hC hR hQ hr _ _ _ _ _ h
    · have h := h.2 c_9
      exact b_X10_changeLevel_20 hC hR hQ hr _ _ _ _ h
theorem ct_X10_changeLevel {l : Launch} {G : Gx} {a : Ax} {s : Sx} {N : Nat} {post : Int32 → Sx → Prop} (x1 : Int32) (x2 : Int32) (x3 : Int32) (h : w_X10_changeLevel N x1 x2 x3 s post) : Met l yX10_changeLevel (Cond.code yX10_changeLevel cX10_changeLevel 5 (some .boolean) :: gw) { frames := 0, cells := 0, slots := 0, locals := 0 } (va_Pc [.ref (adr G a 0 14), .int x1, .int x2, .int x3] (fun U => FU G a s U)) (Qi G a post) 0 0 (bs_ G) := met_of (plainFor_of_name (by decide)) (Nat.le_of_ble_eq_true rfl) rfl (fun X hC hl hR hQ hr hG hn => by subst hG; exact b_X10_changeLevel hC hR hQ hr hn s x1 x2 x3 h)
theorem ca_X10_changeLevel : Ca yX10_changeLevel cX10_changeLevel 5 (some .boolean) 3 := ⟨cd_X10_changeLevel, ii_RX10, by decide, by decide, by decide +kernel⟩
