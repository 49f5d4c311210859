def w_X12_placeOf_16 (N : Nat) (post : Int32 → Sx → Prop) (K7 : Sx → Int32 → Int32 → Int32 → Int32 → Prop) : Nat → Sx → Int32 → Int32 → Int32 → Int32 → Prop
  | 0, _, _, _, _, _ => False
  | n + 1, s, x1, x2, x4, x5 => (((x2 >>> (x5 &&& 31)) &&& 1) = 1 → ∀ x_3 : Int32, x_3 = x5 + 1 → w_X12_placeOf_16 N post K7 n s x1 x2 x4 x_3) ∧ (¬ (((x2 >>> (x5 &&& 31)) &&& 1) = 1) → vp_in x5 8 ∧ ((s.1 5 67 x5.toNatClampNeg) = 0 → ∀ x_6 : Int32, x_6 = x5 + 1 → w_X12_placeOf_16 N post K7 n s x1 x2 x4 x_6) ∧ (¬ ((s.1 5 67 x5.toNatClampNeg) = 0) → vp_in (x2 ||| (1 <<< (x5 &&& 31))) 256 ∧ ((lg_cmp (s.2.1 5 68 (x2 ||| (1 <<< (x5 &&& 31))).toNatClampNeg) ((-9223372036854775808))) = 0 → ∀ x_9 : Int32, x_9 = x5 + 1 → w_X12_placeOf_16 N post K7 n s x1 x2 x4 x_9) ∧ (¬ ((lg_cmp (s.2.1 5 68 (x2 ||| (1 <<< (x5 &&& 31))).toNatClampNeg) ((-9223372036854775808))) = 0) → w_X12_gainOf N x4 x5 s (fun r_11 s_10 => vp_in (x2 ||| (1 <<< (x5 &&& 31))) 256 ∧ vp_in x2 256 ∧ ((lg_cmp (r_11 + (s_10.2.1 5 68 (x2 ||| (1 <<< (x5 &&& 31))).toNatClampNeg)) (s_10.2.1 5 68 x2.toNatClampNeg)) = 0 → ∀ x_15 : Int32, x_15 = x2 ||| (1 <<< (x5 &&& 31)) → ∀ x_16 : Int32, x_16 = x4 + 1 → K7 s_10 x1 x_15 x5 x_16) ∧ (¬ ((lg_cmp (r_11 + (s_10.2.1 5 68 (x2 ||| (1 <<< (x5 &&& 31))).toNatClampNeg)) (s_10.2.1 5 68 x2.toNatClampNeg)) = 0) → ∀ x_17 : Int32, x_17 = x5 + 1 → w_X12_placeOf_16 N post K7 n s_10 x1 x2 x4 x_17)))))
def w_X12_placeOf_7 (N : Nat) (post : Int32 → Sx → Prop) : Nat → Sx → Int32 → Int32 → Int32 → Int32 → Prop
  | 0, _, _, _, _, _ => False
  | n + 1, s, x1, x2, x3, x4 => (x1 < x4 → post x3 s) ∧ (¬ (x1 < x4) → w_X12_placeOf_16 N post (w_X12_placeOf_7 N post n) N s x1 x2 x4 0)
def w_X12_placeOf (N : Nat) (x1 : Int32) (s : Sx) (post : Int32 → Sx → Prop) : Prop := w_X12_placeOf_7 N post N s x1 0 0 0
set_option maxHeartbeats 4000000 in
theorem b_X12_placeOf_16 {X : Kx} {a : Ax} {N : Nat} {post : Int32 → Sx → Prop} {K7 : Sx → Int32 → Int32 → Int32 → Int32 → Prop}  (hC : Cx X cX12_placeOf 6 RX12) (hR : X.R = { frames := 2, cells := 0, slots := 0, locals := 42 }) (hQ : X.Q = MQ X.below (Qi X.G a post) X.av X.s 0 0 (bs_ X.G)) (hr : X.meth.sig.returnType = (some .int))  (hK7 : ∀ (s : Sx) (x1 : Int32) (x2 : Int32) (x3 : Int32) (x4 : Int32), K7 s x1 x2 x3 x4 → wk X a s 6 7 [(0, .ref (adr X.G a 6 0)), (1, .int x1), (2, .int x2), (3, .int x3), (4, .int x4)] [] 0 0) : ∀ (n : Nat) (s : Sx) (x1 : Int32) (x2 : Int32) (x4 : Int32) (x5 : Int32), w_X12_placeOf_16 N post K7 n s x1 x2 x4 x5 → wk X a s 6 16 [(0, .ref (adr X.G a 6 0)), (1, .int x1), (2, .int x2), (4, .int x4), (5, .int x5)] [] 0 0 := by
  intro n
  induction n with
  | zero => intro s x1 x2 x4 x5 h; exact h.elim
  | succ n ih =>
    intro s x1 x2 x4 x5 h
    unfold w_X12_placeOf_16 at h
    refine k_iload_n hC (pc := 16) dX12_placeOf_16 2 rfl ?_
    refine k_iload hC (pc := 17) dX12_placeOf_17 4 rfl ?_
    refine k_ishr hC (pc := 19) dX12_placeOf_19 ?_
    refine k_iconst hC (pc := 20) (v := 1) dX12_placeOf_20 ic_1 ?_
    refine k_iand hC (pc := 21) dX12_placeOf_21 ?_
    refine k_iconst hC (pc := 22) (v := 1) dX12_placeOf_22 ic_1 ?_
    refine k_icmp_eq hC (pc := 23) 84 dX12_placeOf_23 (by decide) (fun c_2 => ?_) (fun c_2 => ?_)
    · have h := h.1 c_2
      obtain ⟨x_3, h_x_3⟩ : ∃ z : Int32, z = x5 + 1 := ⟨_, rfl⟩
      have h := h x_3 h_x_3
      refine k_iincw hC (pc := 84) dX12_placeOf_84 4 rfl ic_1 h_x_3.symm [(5, .int x_3), (0, .ref (adr X.G a 6 0)), (1, .int x1), (2, .int x2), (4, .int x4)] (by decide) rfl ?_
      refine k_goto hC (pc := 87) 16 dX12_placeOf_87 (by decide) ?_
      refine k_sub [(0, .ref (adr X.G a 6 0)), (1, .int x1), (2, .int x2), (4, .int x4), (5, .int x_3)] [1, 2, 3, 4, 0] rfl ?_
      exact ih _ _ _ _ _ h
    · have h := h.2 c_2
      refine k_aload_n hC (pc := 26) dX12_placeOf_26 0 rfl ?_
      refine gf_X12_67 hC (pc := 27)  fl_RX12_167 dX12_placeOf_27 ?_
      refine k_iload hC (pc := 30) dX12_placeOf_30 4 rfl ?_
      obtain ⟨c_4, h⟩ := h
      refine r_zald hC (pc := 32) ra5_67 c_4 dX12_placeOf_32 ?_
      refine k_if_eq hC (pc := 33) 84 dX12_placeOf_33 (by decide) (fun c_5 => ?_) (fun c_5 => ?_)
      · have h := h.1 c_5
        obtain ⟨x_6, h_x_6⟩ : ∃ z : Int32, z = x5 + 1 := ⟨_, rfl⟩
        have h := h x_6 h_x_6
        refine k_iincw hC (pc := 84) dX12_placeOf_84 4 rfl ic_1 h_x_6.symm [(5, .int x_6), (0, .ref (adr X.G a 6 0)), (1, .int x1), (2, .int x2), (4, .int x4)] (by decide) rfl ?_
        refine k_goto hC (pc := 87) 16 dX12_placeOf_87 (by decide) ?_
        refine k_sub [(0, .ref (adr X.G a 6 0)), (1, .int x1), (2, .int x2), (4, .int x4), (5, .int x_6)] [1, 2, 3, 4, 0] rfl ?_
        exact ih _ _ _ _ _ h
      · have h := h.2 c_5
        refine k_aload_n hC (pc := 36) dX12_placeOf_36 0 rfl ?_
        refine gf_X12_68 hC (pc := 37)  fl_RX12_171 dX12_placeOf_37 ?_
        refine k_iload_n hC (pc := 40) dX12_placeOf_40 2 rfl ?_
        refine k_iconst hC (pc := 41) (v := 1) dX12_placeOf_41 ic_1 ?_
        refine k_iload hC (pc := 42) dX12_placeOf_42 4 rfl ?_
        refine k_ishl hC (pc := 44) dX12_placeOf_44 ?_
        refine k_ior hC (pc := 45) dX12_placeOf_45 ?_
        obtain ⟨c_7, h⟩ := h
        refine r_lald hC (pc := 46) ra5_68 c_7 dX12_placeOf_46 ?_
        refine k_ldc2 hC (pc := 47) dX12_placeOf_47 cn_RX12_184 ?_
        refine k_lcmp hC (pc := 50) dX12_placeOf_50 ?_
        refine k_if_eq hC (pc := 51) 84 dX12_placeOf_51 (by decide) (fun c_8 => ?_) (fun c_8 => ?_)
        · have h := h.1 c_8
          obtain ⟨x_9, h_x_9⟩ : ∃ z : Int32, z = x5 + 1 := ⟨_, rfl⟩
          have h := h x_9 h_x_9
          refine k_iincw hC (pc := 84) dX12_placeOf_84 4 rfl ic_1 h_x_9.symm [(5, .int x_9), (0, .ref (adr X.G a 6 0)), (1, .int x1), (2, .int x2), (4, .int x4)] (by decide) rfl ?_
          refine k_goto hC (pc := 87) 16 dX12_placeOf_87 (by decide) ?_
          refine k_sub [(0, .ref (adr X.G a 6 0)), (1, .int x1), (2, .int x2), (4, .int x4), (5, .int x_9)] [1, 2, 3, 4, 0] rfl ?_
          exact ih _ _ _ _ _ h
        · have h := h.2 c_8
          refine k_aload_n hC (pc := 54) dX12_placeOf_54 0 rfl ?_
          refine k_iload hC (pc := 55) dX12_placeOf_55 3 rfl ?_
          refine k_iload hC (pc := 57) dX12_placeOf_57 4 rfl ?_
          refine k_cl (rn_V hC (pc := 59) (As := [.int x4, .int x5]) (rest := []) ca_X12_gainOf ml_RX12_323 im_X12_gainOf se_X12_gainOf (fx_in f6_0) (ob6_0 _ _ _ _ _) rfl rfl (ct_X12_gainOf x4 x5 h) (by rw [hR]; exact ⟨rfl, rfl, by decide, by decide⟩) rfl (Nat.le_of_ble_eq_true rfl) dX12_placeOf_59 ⟨by rw [hR]; decide, by rw [hR]; decide⟩) (fun r_11 s_10 h => ?_)
          refine k_aload_n hC (pc := 62) dX12_placeOf_62 0 rfl ?_
          refine gf_X12_68 hC (pc := 63)  fl_RX12_171 dX12_placeOf_63 ?_
          refine k_iload_n hC (pc := 66) dX12_placeOf_66 2 rfl ?_
          refine k_iconst hC (pc := 67) (v := 1) dX12_placeOf_67 ic_1 ?_
          refine k_iload hC (pc := 68) dX12_placeOf_68 4 rfl ?_
          refine k_ishl hC (pc := 70) dX12_placeOf_70 ?_
          refine k_ior hC (pc := 71) dX12_placeOf_71 ?_
          obtain ⟨c_12, h⟩ := h
          refine r_lald hC (pc := 72) ra5_68 c_12 dX12_placeOf_72 ?_
          refine k_ladd hC (pc := 73) dX12_placeOf_73 ?_
          refine k_aload_n hC (pc := 74) dX12_placeOf_74 0 rfl ?_
          refine gf_X12_68 hC (pc := 75)  fl_RX12_171 dX12_placeOf_75 ?_
          refine k_iload_n hC (pc := 78) dX12_placeOf_78 2 rfl ?_
          obtain ⟨c_13, h⟩ := h
          refine r_lald hC (pc := 79) ra5_68 c_13 dX12_placeOf_79 ?_
          refine k_lcmp hC (pc := 80) dX12_placeOf_80 ?_
          refine k_if_eq hC (pc := 81) 90 dX12_placeOf_81 (by decide) (fun c_14 => ?_) (fun c_14 => ?_)
          · have h := h.1 c_14
            refine k_iload_n hC (pc := 90) dX12_placeOf_90 2 rfl ?_
            refine k_iconst hC (pc := 91) (v := 1) dX12_placeOf_91 ic_1 ?_
            refine k_iload hC (pc := 92) dX12_placeOf_92 4 rfl ?_
            refine k_ishl hC (pc := 94) dX12_placeOf_94 ?_
            refine k_ior hC (pc := 95) dX12_placeOf_95 ?_
            refine k_topi (fun x_15 h_x_15 => ?_)
            have h := h x_15 h_x_15
            refine k_istore_n hC (pc := 96) dX12_placeOf_96 [(2, .int x_15), (0, .ref (adr X.G a 6 0)), (1, .int x1), (4, .int x4), (5, .int x5)] (by decide) rfl ?_
            refine k_iload hC (pc := 97) dX12_placeOf_97 4 rfl ?_
            refine k_istore_n hC (pc := 99) dX12_placeOf_99 [(3, .int x5), (2, .int x_15), (0, .ref (adr X.G a 6 0)), (1, .int x1), (4, .int x4), (5, .int x5)] (by decide) rfl ?_
            obtain ⟨x_16, h_x_16⟩ : ∃ z : Int32, z = x4 + 1 := ⟨_, rfl⟩
            have h := h x_16 h_x_16
            refine k_iincw hC (pc := 100) dX12_placeOf_100 4 rfl ic_1 h_x_16.symm [(4, .int x_16), (3, .int x5), (2, .int x_15), (0, .ref (adr X.G a 6 0)), (1, .int x1), (5, .int x5)] (by decide) rfl ?_
            refine k_goto hC (pc := 103) 7 dX12_placeOf_103 (by decide) ?_
            refine k_sub [(0, .ref (adr X.G a 6 0)), (1, .int x1), (2, .int x_15), (3, .int x5), (4, .int x_16)] [3, 4, 2, 1, 0] rfl ?_
            exact hK7 _ _ _ _ _ h
          · have h := h.2 c_14
            obtain ⟨x_17, h_x_17⟩ : ∃ z : Int32, z = x5 + 1 := ⟨_, rfl⟩
            have h := h x_17 h_x_17
            refine k_iincw hC (pc := 84) dX12_placeOf_84 4 rfl ic_1 h_x_17.symm [(5, .int x_17), (0, .ref (adr X.G a 6 0)), (1, .int x1), (2, .int x2), (4, .int x4)] (by decide) rfl ?_
            refine k_goto hC (pc := 87) 16 dX12_placeOf_87 (by decide) ?_
            refine k_sub [(0, .ref (adr X.G a 6 0)), (1, .int x1), (2, .int x2), (4, .int x4), (5, .int x_17)] [1, 2, 3, 4, 0] rfl ?_
            exact ih _ _ _ _ _ h
set_option maxHeartbeats 4000000 in
theorem b_X12_placeOf_7 {X : Kx} {a : Ax} {N : Nat} {post : Int32 → Sx → Prop}  (hC : Cx X cX12_placeOf 6 RX12) (hR : X.R = { frames := 2, cells := 0, slots := 0, locals := 42 }) (hQ : X.Q = MQ X.below (Qi X.G a post) X.av X.s 0 0 (bs_ X.G)) (hr : X.meth.sig.returnType = (some .int))   : ∀ (n : Nat) (s : Sx) (x1 : Int32) (x2 : Int32) (x3 : Int32) (x4 : Int32), w_X12_placeOf_7 N post  n s x1 x2 x3 x4 → wk X a s 6 7 [(0, .ref (adr X.G a 6 0)), (1, .int x1), (2, .int x2), (3, .int x3), (4, .int x4)] [] 0 0 := by
  intro n
  induction n with
  | zero => intro s x1 x2 x3 x4 h; exact h.elim
  | succ n ih =>
    intro s x1 x2 x3 x4 h
    unfold w_X12_placeOf_7 at h
    refine k_iload hC (pc := 7) dX12_placeOf_7 4 rfl ?_
    refine k_iload_n hC (pc := 9) dX12_placeOf_9 1 rfl ?_
    refine k_icmp_gt hC (pc := 10) 106 dX12_placeOf_10 (by decide) (fun c_1 => ?_) (fun c_1 => ?_)
    · have h := h.1 c_1
      refine k_iload_n hC (pc := 106) dX12_placeOf_106 3 rfl ?_
      exact k_iret hC (pc := 107) hQ hr dX12_placeOf_107 h
    · have h := h.2 c_1
      refine k_iconst hC (pc := 13) (v := 0) dX12_placeOf_13 ic_0 ?_
      refine k_istore hC (pc := 14) dX12_placeOf_14 [(5, .int 0), (0, .ref (adr X.G a 6 0)), (1, .int x1), (2, .int x2), (3, .int x3), (4, .int x4)] (by decide) rfl ?_
      refine k_sub [(0, .ref (adr X.G a 6 0)), (1, .int x1), (2, .int x2), (4, .int x4), (5, .int 0)] [1, 2, 3, 5, 0] rfl ?_
      exact b_X12_placeOf_16 hC hR hQ hr ih N _ _ _ _ _ h
set_option maxHeartbeats 4000000 in
theorem b_X12_placeOf {X : Kx} {a : Ax} {N : Nat} {post : Int32 → Sx → Prop} (hC : Cx X cX12_placeOf 6 RX12) (hR : X.R = { frames := 2, cells := 0, slots := 0, locals := 42 }) (hQ : X.Q = MQ X.below (Qi X.G a post) X.av X.s 0 0 (bs_ X.G)) (hr : X.meth.sig.returnType = (some .int)) (hn : X.meth.name = "placeOf") (s : Sx) (x1 : Int32) (h : w_X12_placeOf N x1 s post) : wk X a s 6 0 [(0, .ref (adr X.G a 6 0)), (1, .int x1)] [] 0 0 := by
  unfold w_X12_placeOf at h
  refine k_iconst hC (pc := 0) (v := 0) dX12_placeOf_0 ic_0 ?_
  refine k_istore_n hC (pc := 1) dX12_placeOf_1 [(2, .int 0), (0, .ref (adr X.G a 6 0)), (1, .int x1)] (by decide) rfl ?_
  refine k_iconst hC (pc := 2) (v := 0) dX12_placeOf_2 ic_0 ?_
  refine k_istore_n hC (pc := 3) dX12_placeOf_3 [(3, .int 0), (2, .int 0), (0, .ref (adr X.G a 6 0)), (1, .int x1)] (by decide) rfl ?_
  refine k_iconst hC (pc := 4) (v := 0) dX12_placeOf_4 ic_0 ?_
  refine k_istore hC (pc := 5) dX12_placeOf_5 [(4, .int 0), (3, .int 0), (2, .int 0), (0, .ref (adr X.G a 6 0)), (1, .int x1)] (by decide) rfl ?_
  refine k_sub [(0, .ref (adr X.G a 6 0)), (1, .int x1), (2, .int 0), (3, .int 0), (4, .int 0)] [3, 4, 2, 1, 0] rfl ?_
  exact b_X12_placeOf_7 hC hR hQ hr N _ _ _ _ _ h
theorem ct_X12_placeOf {l : Launch} {G : Gx} {a : Ax} {s : Sx} {N : Nat} {post : Int32 → Sx → Prop} (x1 : Int32) (h : w_X12_placeOf N x1 s post) : Met l yX12_placeOf (Cond.code yX12_placeOf cX12_placeOf 6 (some .int) :: gw) { frames := 2, cells := 0, slots := 0, locals := 42 } (va_Pc [.ref (adr G a 6 0), .int x1] (fun U => FU G a s U)) (Qi G a post) 0 0 (bs_ G) := met_of (plainFor_of_name (by decide)) (Nat.le_of_ble_eq_true rfl) rfl (fun X hC hl hR hQ hr hG hn => by subst hG; exact b_X12_placeOf hC hR hQ hr hn s x1 h)
theorem ca_X12_placeOf : Ca yX12_placeOf cX12_placeOf 6 (some .int) 1 := ⟨cd_X12_placeOf, ii_RX12, by decide, by decide, by decide +kernel⟩
def w_X12_move (N : Nat) (x1 : Int32) (s : Sx) (post : Int64 → Sx → Prop) : Prop := w_X12_within N x1 ((-1)) ((s.1 6 0 5) - 1) s (fun r_2 s_1 => (¬ r_2 = 0 → w_X12_layMoves N s_1 (fun s_4 => (¬ x1 = ((-1)) → vp_in 0 256 ∧ (¬ (lg_cmp (s_4.2.1 5 68 (0 : Int32).toNatClampNeg) ((-9223372036854775808))) = 0 → w_X12_placeOf N x1 s_4 (fun r_9 s_8 => post r_9.toInt64 s_8)) ∧ (¬ (¬ (lg_cmp (s_4.2.1 5 68 (0 : Int32).toNatClampNeg) ((-9223372036854775808))) = 0) → post ((-9)) s_4)) ∧ (¬ (¬ x1 = ((-1))) → vp_in 0 256 ∧ post (s_4.2.1 5 68 (0 : Int32).toNatClampNeg) s_4))) ∧ (¬ (¬ r_2 = 0) → post ((-9223372036854775808)) s_1))
set_option maxHeartbeats 4000000 in
theorem b_X12_move {X : Kx} {a : Ax} {N : Nat} {post : Int64 → Sx → Prop} (hC : Cx X cX12_move 2 RX12) (hR : X.R = { frames := 3, cells := 0, slots := 0, locals := 67 }) (hQ : X.Q = MQ X.below (Ql X.G a post) X.av X.s 0 0 (bs_ X.G)) (hr : X.meth.sig.returnType = (some .long)) (hn : X.meth.name = "move") (s : Sx) (x1 : Int32) (h : w_X12_move N x1 s post) : wk X a s 2 0 [(0, .ref (adr X.G a 6 0)), (1, .int x1)] [] 0 0 := by
  unfold w_X12_move at h
  refine k_iload_n hC (pc := 0) dX12_move_0 1 rfl ?_
  refine k_iconst hC (pc := 1) (v := (-1)) dX12_move_1 ic_m1 ?_
  refine k_aload_n hC (pc := 2) dX12_move_2 0 rfl ?_
  refine gf_X12_5 hC (pc := 3)  fl_RX12_190 dX12_move_3 ?_
  refine k_iconst hC (pc := 6) (v := 1) dX12_move_6 ic_1 ?_
  refine k_isub hC (pc := 7) dX12_move_7 ?_
  refine k_ci (rn_S hC (pc := 8) (As := [.int x1, .int ((-1)), .int ((s.1 6 0 5) - 1)]) (rest := []) ca_X12_within ml_RX12_186 sm_X12_within (ct_X12_within x1 ((-1)) ((s.1 6 0 5) - 1) h) (by rw [hR]; exact ⟨rfl, rfl, by decide, by decide⟩) rfl (Nat.le_of_ble_eq_true rfl) dX12_move_8 ⟨by rw [hR]; decide, by rw [hR]; decide⟩) (fun r_2 s_1 h => ?_)
  refine k_if_ne hC (pc := 11) 18 dX12_move_11 (by decide) (fun c_3 => ?_) (fun c_3 => ?_)
  · have h := h.1 c_3
    refine k_aload_n hC (pc := 18) dX12_move_18 0 rfl ?_
    refine k_cv (rn_V hC (pc := 19) (As := []) (rest := []) ca_X12_layMoves ml_RX12_326 im_X12_layMoves se_X12_layMoves (fx_in f6_0) (ob6_0 _ _ _ _ _) rfl rfl (ct_X12_layMoves h) (by rw [hR]; exact ⟨rfl, rfl, by decide, by decide⟩) rfl (Nat.le_of_ble_eq_true rfl) dX12_move_19 ⟨by rw [hR]; decide, by rw [hR]; decide⟩) (fun s_4 h => ?_)
    refine k_iload_n hC (pc := 22) dX12_move_22 1 rfl ?_
    refine k_iconst hC (pc := 23) (v := (-1)) dX12_move_23 ic_m1 ?_
    refine k_icmp_ne hC (pc := 24) 34 dX12_move_24 (by decide) (fun c_5 => ?_) (fun c_5 => ?_)
    · have h := h.1 c_5
      refine k_aload_n hC (pc := 34) dX12_move_34 0 rfl ?_
      refine gf_X12_68 hC (pc := 35)  fl_RX12_171 dX12_move_35 ?_
      refine k_iconst hC (pc := 38) (v := 0) dX12_move_38 ic_0 ?_
      obtain ⟨c_6, h⟩ := h
      refine r_lald hC (pc := 39) ra5_68 c_6 dX12_move_39 ?_
      refine k_ldc2 hC (pc := 40) dX12_move_40 cn_RX12_184 ?_
      refine k_lcmp hC (pc := 43) dX12_move_43 ?_
      refine k_if_ne hC (pc := 44) 53 dX12_move_44 (by decide) (fun c_7 => ?_) (fun c_7 => ?_)
      · have h := h.1 c_7
        refine k_aload_n hC (pc := 53) dX12_move_53 0 rfl ?_
        refine k_iload_n hC (pc := 54) dX12_move_54 1 rfl ?_
        refine k_ci (rn_V hC (pc := 55) (As := [.int x1]) (rest := []) ca_X12_placeOf ml_RX12_331 im_X12_placeOf se_X12_placeOf (fx_in f6_0) (ob6_0 _ _ _ _ _) rfl rfl (ct_X12_placeOf x1 h) (by rw [hR]; exact ⟨rfl, rfl, by decide, by decide⟩) rfl (Nat.le_of_ble_eq_true rfl) dX12_move_55 ⟨by rw [hR]; decide, by rw [hR]; decide⟩) (fun r_9 s_8 h => ?_)
        refine k_i2l hC (pc := 58) dX12_move_58 ?_
        exact k_lret hC (pc := 59) hQ hr dX12_move_59 h
      · have h := h.2 c_7
        refine k_ldc2 hC (pc := 47) dX12_move_47 cn_RX12_329 ?_
        refine k_goto hC (pc := 50) 59 dX12_move_50 (by decide) ?_
        exact k_lret hC (pc := 59) hQ hr dX12_move_59 h
    · have h := h.2 c_5
      refine k_aload_n hC (pc := 27) dX12_move_27 0 rfl ?_
      refine gf_X12_68 hC (pc := 28)  fl_RX12_171 dX12_move_28 ?_
      refine k_iconst hC (pc := 31) (v := 0) dX12_move_31 ic_0 ?_
      obtain ⟨c_10, h⟩ := h
      refine r_lald hC (pc := 32) ra5_68 c_10 dX12_move_32 ?_
      exact k_lret hC (pc := 33) hQ hr dX12_move_33 h
  · have h := h.2 c_3
    refine k_ldc2 hC (pc := 14) dX12_move_14 cn_RX12_184 ?_
    exact k_lret hC (pc := 17) hQ hr dX12_move_17 h
theorem ct_X12_move {l : Launch} {G : Gx} {a : Ax} {s : Sx} {N : Nat} {post : Int64 → Sx → Prop} (x1 : Int32) (h : w_X12_move N x1 s post) : Met l yX12_move (Cond.code yX12_move cX12_move 2 (some .long) :: gw) { frames := 3, cells := 0, slots := 0, locals := 67 } (va_Pc [.ref (adr G a 6 0), .int x1] (fun U => FU G a s U)) (Ql G a post) 0 0 (bs_ G) := met_of (plainFor_of_name (by decide)) (Nat.le_of_ble_eq_true rfl) rfl (fun X hC hl hR hQ hr hG hn => by subst hG; exact b_X12_move hC hR hQ hr hn s x1 h)
theorem ca_X12_move : Ca yX12_move cX12_move 2 (some .long) 1 := ⟨cd_X12_move, ii_RX12, by decide, by decide, by decide +kernel⟩
def w_X12_gain_76 (N : Nat) (post : Int64 → Sx → Prop) : Nat → Sx → Int32 → Int32 → Int32 → Int64 → Int32 → Prop
  | 0, _, _, _, _, _, _ => False
  | n + 1, s, x4, x6, x7, y8, x10 => (x4 ≤ x10 → post y8 s) ∧ (¬ (x4 ≤ x10) → vp_in (x6 + x10) 240 ∧ ∀ x_15 : Int32, x_15 = s.1 5 4 (x6 + x10).toNatClampNeg → w_X12_within N x_15 0 ((s.1 6 0 63) - 1) s (fun r_17 s_16 => (r_17 = 0 → post ((-9223372036854775808)) s_16) ∧ (¬ (r_17 = 0) → vp_in x_15 8 ∧ ((s_16.1 5 67 x_15.toNatClampNeg) = 0 → post ((-9223372036854775808)) s_16) ∧ (¬ ((s_16.1 5 67 x_15.toNatClampNeg) = 0) → (¬ ((x7 >>> (x_15 &&& 31)) &&& 1) = 1 → ∀ x_22 : Int32, x_22 = x7 ||| (1 <<< (x_15 &&& 31)) → w_X12_gainOf N x10 x_15 s_16 (fun r_24 s_23 => ∀ x_25 : Int64, x_25 = y8 + r_24 → ∀ x_26 : Int32, x_26 = x10 + 1 → w_X12_gain_76 N post n s_23 x4 x6 x_22 x_25 x_26)) ∧ (¬ (¬ ((x7 >>> (x_15 &&& 31)) &&& 1) = 1) → post ((-9223372036854775808)) s_16)))))
def w_X12_gain (N : Nat) (x1 : Int32) (x2 : Int32) (x3 : Int32) (x4 : Int32) (s : Sx) (post : Int64 → Sx → Prop) : Prop := ∀ s_1, s_1 = setI s 6 0 0 0 → w_X12_isSheet N x1 s_1 (fun r_3 s_2 => (r_3 = 0 → post ((-9223372036854775808)) s_2) ∧ (¬ (r_3 = 0) → w_X12_isLane N x2 s_2 (fun r_6 s_5 => (¬ r_6 = 0 → w_X12_against N x1 x2 x3 x4 s_5 (fun r_9 s_8 => (r_9 = 0 → (x4 = (s_8.1 6 0 5) → ∀ x_12 : Int32, x_12 = (60 * x1) + x3 → w_X12_gain_76 N post N s_8 x4 x_12 0 0 0) ∧ (¬ (x4 = (s_8.1 6 0 5)) → post ((-9223372036854775808)) s_8)) ∧ (¬ (r_9 = 0) → w_X12_lostBeing N r_9 s_8 (fun r_28 s_27 => post r_28 s_27)))) ∧ (¬ (¬ r_6 = 0) → post ((-9223372036854775808)) s_5))))
set_option maxHeartbeats 4000000 in
theorem b_X12_gain_76 {X : Kx} {a : Ax} {N : Nat} {post : Int64 → Sx → Prop}  (hC : Cx X cX12_gain 12 RX12) (hR : X.R = { frames := 2, cells := 0, slots := 0, locals := 42 }) (hQ : X.Q = MQ X.below (Ql X.G a post) X.av X.s 0 0 (bs_ X.G)) (hr : X.meth.sig.returnType = (some .long))   : ∀ (n : Nat) (s : Sx) (x4 : Int32) (x6 : Int32) (x7 : Int32) (y8 : Int64) (x10 : Int32), w_X12_gain_76 N post  n s x4 x6 x7 y8 x10 → wk X a s 12 76 [(0, .ref (adr X.G a 6 0)), (4, .int x4), (6, .int x6), (7, .int x7), (8, .long y8), (10, .int x10)] [] 0 0 := by
  intro n
  induction n with
  | zero => intro s x4 x6 x7 y8 x10 h; exact h.elim
  | succ n ih =>
    intro s x4 x6 x7 y8 x10 h
    unfold w_X12_gain_76 at h
    refine k_iload hC (pc := 76) dX12_gain_76 5 rfl ?_
    refine k_iload hC (pc := 78) dX12_gain_78 1 rfl ?_
    refine k_icmp_ge hC (pc := 80) 163 dX12_gain_80 (by decide) (fun c_13 => ?_) (fun c_13 => ?_)
    · have h := h.1 c_13
      refine k_lload hC (pc := 163) dX12_gain_163 4 rfl ?_
      exact k_lret hC (pc := 165) hQ hr dX12_gain_165 h
    · have h := h.2 c_13
      refine k_aload_n hC (pc := 83) dX12_gain_83 0 rfl ?_
      refine gf_X12_4 hC (pc := 84)  fl_RX12_16 dX12_gain_84 ?_
      refine k_iload hC (pc := 87) dX12_gain_87 2 rfl ?_
      refine k_iload hC (pc := 89) dX12_gain_89 5 rfl ?_
      refine k_iadd hC (pc := 91) dX12_gain_91 ?_
      obtain ⟨c_14, h⟩ := h
      refine r_iald hC (pc := 92) ra5_4 c_14 dX12_gain_92 ?_
      refine k_topi (fun x_15 h_x_15 => ?_)
      have h := h x_15 h_x_15
      refine k_istore hC (pc := 93) dX12_gain_93 [(11, .int x_15), (0, .ref (adr X.G a 6 0)), (4, .int x4), (6, .int x6), (7, .int x7), (8, .long y8), (10, .int x10)] (by decide) rfl ?_
      refine k_iload hC (pc := 95) dX12_gain_95 0 rfl ?_
      refine k_iconst hC (pc := 97) (v := 0) dX12_gain_97 ic_0 ?_
      refine k_aload_n hC (pc := 98) dX12_gain_98 1 rfl ?_
      refine gf_X12_63 hC (pc := 99)  fl_RX12_317 dX12_gain_99 ?_
      refine k_iconst hC (pc := 102) (v := 1) dX12_gain_102 ic_1 ?_
      refine k_isub hC (pc := 103) dX12_gain_103 ?_
      refine k_ci (rn_S hC (pc := 104) (As := [.int x_15, .int 0, .int ((s.1 6 0 63) - 1)]) (rest := []) ca_X12_within ml_RX12_186 sm_X12_within (ct_X12_within x_15 0 ((s.1 6 0 63) - 1) h) (by rw [hR]; exact ⟨rfl, rfl, by decide, by decide⟩) rfl (Nat.le_of_ble_eq_true rfl) dX12_gain_104 ⟨by rw [hR]; decide, by rw [hR]; decide⟩) (fun r_17 s_16 h => ?_)
      refine k_if_eq hC (pc := 107) 131 dX12_gain_107 (by decide) (fun c_18 => ?_) (fun c_18 => ?_)
      · have h := h.1 c_18
        refine k_ldc2 hC (pc := 131) dX12_gain_131 cn_RX12_184 ?_
        exact k_lret hC (pc := 134) hQ hr dX12_gain_134 h
      · have h := h.2 c_18
        refine k_aload_n hC (pc := 110) dX12_gain_110 1 rfl ?_
        refine gf_X12_67 hC (pc := 111)  fl_RX12_167 dX12_gain_111 ?_
        refine k_iload hC (pc := 114) dX12_gain_114 0 rfl ?_
        obtain ⟨c_19, h⟩ := h
        refine r_zald hC (pc := 116) ra5_67 c_19 dX12_gain_116 ?_
        refine k_if_eq hC (pc := 117) 131 dX12_gain_117 (by decide) (fun c_20 => ?_) (fun c_20 => ?_)
        · have h := h.1 c_20
          refine k_ldc2 hC (pc := 131) dX12_gain_131 cn_RX12_184 ?_
          exact k_lret hC (pc := 134) hQ hr dX12_gain_134 h
        · have h := h.2 c_20
          refine k_iload hC (pc := 120) dX12_gain_120 4 rfl ?_
          refine k_iload hC (pc := 122) dX12_gain_122 0 rfl ?_
          refine k_ishr hC (pc := 124) dX12_gain_124 ?_
          refine k_iconst hC (pc := 125) (v := 1) dX12_gain_125 ic_1 ?_
          refine k_iand hC (pc := 126) dX12_gain_126 ?_
          refine k_iconst hC (pc := 127) (v := 1) dX12_gain_127 ic_1 ?_
          refine k_icmp_ne hC (pc := 128) 135 dX12_gain_128 (by decide) (fun c_21 => ?_) (fun c_21 => ?_)
          · have h := h.1 c_21
            refine k_iload hC (pc := 135) dX12_gain_135 4 rfl ?_
            refine k_iconst hC (pc := 137) (v := 1) dX12_gain_137 ic_1 ?_
            refine k_iload hC (pc := 138) dX12_gain_138 0 rfl ?_
            refine k_ishl hC (pc := 140) dX12_gain_140 ?_
            refine k_ior hC (pc := 141) dX12_gain_141 ?_
            refine k_topi (fun x_22 h_x_22 => ?_)
            have h := h x_22 h_x_22
            refine k_istore hC (pc := 142) dX12_gain_142 [(7, .int x_22), (11, .int x_15), (0, .ref (adr X.G a 6 0)), (4, .int x4), (6, .int x6), (8, .long y8), (10, .int x10)] (by decide) rfl ?_
            refine k_lload hC (pc := 144) dX12_gain_144 5 rfl ?_
            refine k_aload_n hC (pc := 146) dX12_gain_146 2 rfl ?_
            refine k_iload hC (pc := 147) dX12_gain_147 6 rfl ?_
            refine k_iload hC (pc := 149) dX12_gain_149 1 rfl ?_
            refine k_cl (rn_V hC (pc := 151) (As := [.int x10, .int x_15]) (rest := [.long y8]) ca_X12_gainOf ml_RX12_323 im_X12_gainOf se_X12_gainOf (fx_in f6_0) (ob6_0 _ _ _ _ _) rfl rfl (ct_X12_gainOf x10 x_15 h) (by rw [hR]; exact ⟨rfl, rfl, by decide, by decide⟩) rfl (Nat.le_of_ble_eq_true rfl) dX12_gain_151 ⟨by rw [hR]; decide, by rw [hR]; decide⟩) (fun r_24 s_23 h => ?_)
            refine k_ladd hC (pc := 154) dX12_gain_154 ?_
            refine k_topl (fun x_25 h_x_25 => ?_)
            have h := h x_25 h_x_25
            refine k_lstore hC (pc := 155) dX12_gain_155 [(8, .long x_25), (7, .int x_22), (11, .int x_15), (0, .ref (adr X.G a 6 0)), (4, .int x4), (6, .int x6), (10, .int x10)] (by decide) rfl ?_
            obtain ⟨x_26, h_x_26⟩ : ∃ z : Int32, z = x10 + 1 := ⟨_, rfl⟩
            have h := h x_26 h_x_26
            refine k_iincw hC (pc := 157) dX12_gain_157 6 rfl ic_1 h_x_26.symm [(10, .int x_26), (8, .long x_25), (7, .int x_22), (11, .int x_15), (0, .ref (adr X.G a 6 0)), (4, .int x4), (6, .int x6)] (by decide) rfl ?_
            refine k_goto hC (pc := 160) 76 dX12_gain_160 (by decide) ?_
            refine k_sub [(0, .ref (adr X.G a 6 0)), (4, .int x4), (6, .int x6), (7, .int x_22), (8, .long x_25), (10, .int x_26)] [4, 5, 6, 2, 1, 0] rfl ?_
            exact ih _ _ _ _ _ _ h
          · have h := h.2 c_21
            refine k_ldc2 hC (pc := 131) dX12_gain_131 cn_RX12_184 ?_
            exact k_lret hC (pc := 134) hQ hr dX12_gain_134 h
set_option maxHeartbeats 4000000 in
theorem b_X12_gain {X : Kx} {a : Ax} {N : Nat} {post : Int64 → Sx → Prop} (hC : Cx X cX12_gain 12 RX12) (hR : X.R = { frames := 2, cells := 0, slots := 0, locals := 42 }) (hQ : X.Q = MQ X.below (Ql X.G a post) X.av X.s 0 0 (bs_ X.G)) (hr : X.meth.sig.returnType = (some .long)) (hn : X.meth.name = "gain") (s : Sx) (x1 : Int32) (x2 : Int32) (x3 : Int32) (x4 : Int32) (h : w_X12_gain N x1 x2 x3 x4 s post) : wk X a s 12 0 [(0, .ref (adr X.G a 6 0)), (1, .int x1), (2, .int x2), (3, .int x3), (4, .int x4)] [] 0 0 := by
  unfold w_X12_gain at h
  refine k_aload_n hC (pc := 0) dX12_gain_0 0 rfl ?_
  refine k_iconst hC (pc := 1) (v := 0) dX12_gain_1 ic_0 ?_
  refine pf_X12_0 hC (pc := 2)  fl_RX12_181 dX12_gain_2 (fun s_1 h_s_1 => ?_)
  have h := h s_1 h_s_1
  refine k_iload_n hC (pc := 5) dX12_gain_5 1 rfl ?_
  refine k_ci (rn_S hC (pc := 6) (As := [.int x1]) (rest := []) ca_X12_isSheet ml_RX12_239 sm_X12_isSheet (ct_X12_isSheet x1 h) (by rw [hR]; exact ⟨rfl, rfl, by decide, by decide⟩) rfl (Nat.le_of_ble_eq_true rfl) dX12_gain_6 ⟨by rw [hR]; decide, by rw [hR]; decide⟩) (fun r_3 s_2 h => ?_)
  refine k_if_eq hC (pc := 9) 19 dX12_gain_9 (by decide) (fun c_4 => ?_) (fun c_4 => ?_)
  · have h := h.1 c_4
    refine k_ldc2 hC (pc := 19) dX12_gain_19 cn_RX12_184 ?_
    exact k_lret hC (pc := 22) hQ hr dX12_gain_22 h
  · have h := h.2 c_4
    refine k_iload_n hC (pc := 12) dX12_gain_12 2 rfl ?_
    refine k_ci (rn_S hC (pc := 13) (As := [.int x2]) (rest := []) ca_X12_isLane ml_RX12_242 sm_X12_isLane (ct_X12_isLane x2 h) (by rw [hR]; exact ⟨rfl, rfl, by decide, by decide⟩) rfl (Nat.le_of_ble_eq_true rfl) dX12_gain_13 ⟨by rw [hR]; decide, by rw [hR]; decide⟩) (fun r_6 s_5 h => ?_)
    refine k_if_ne hC (pc := 16) 23 dX12_gain_16 (by decide) (fun c_7 => ?_) (fun c_7 => ?_)
    · have h := h.1 c_7
      refine k_aload_n hC (pc := 23) dX12_gain_23 0 rfl ?_
      refine k_iload_n hC (pc := 24) dX12_gain_24 1 rfl ?_
      refine k_iload_n hC (pc := 25) dX12_gain_25 2 rfl ?_
      refine k_iload_n hC (pc := 26) dX12_gain_26 3 rfl ?_
      refine k_iload hC (pc := 27) dX12_gain_27 4 rfl ?_
      refine k_ci (rn_V hC (pc := 29) (As := [.int x1, .int x2, .int x3, .int x4]) (rest := []) ca_X12_against ml_RX12_245 im_X12_against se_X12_against (fx_in f6_0) (ob6_0 _ _ _ _ _) rfl rfl (ct_X12_against x1 x2 x3 x4 h) (by rw [hR]; exact ⟨rfl, rfl, by decide, by decide⟩) rfl (Nat.le_of_ble_eq_true rfl) dX12_gain_29 ⟨by rw [hR]; decide, by rw [hR]; decide⟩) (fun r_9 s_8 h => ?_)
      refine k_istore hC (pc := 32) dX12_gain_32 [(5, .int r_9), (0, .ref (adr X.G a 6 0)), (1, .int x1), (2, .int x2), (3, .int x3), (4, .int x4)] (by decide) rfl ?_
      refine k_iload hC (pc := 34) dX12_gain_34 0 rfl ?_
      refine k_if_eq hC (pc := 36) 46 dX12_gain_36 (by decide) (fun c_10 => ?_) (fun c_10 => ?_)
      · have h := h.1 c_10
        refine k_iload hC (pc := 46) dX12_gain_46 5 rfl ?_
        refine k_aload_n hC (pc := 48) dX12_gain_48 1 rfl ?_
        refine gf_X12_5 hC (pc := 49)  fl_RX12_190 dX12_gain_49 ?_
        refine k_icmp_eq hC (pc := 52) 59 dX12_gain_52 (by decide) (fun c_11 => ?_) (fun c_11 => ?_)
        · have h := h.1 c_11
          refine k_bipush hC (pc := 59) (v := 60) dX12_gain_59 bp_60 ?_
          refine k_iload_n hC (pc := 61) dX12_gain_61 2 rfl ?_
          refine k_imul hC (pc := 62) dX12_gain_62 ?_
          refine k_iload_n hC (pc := 63) dX12_gain_63 4 rfl ?_
          refine k_iadd hC (pc := 64) dX12_gain_64 ?_
          refine k_topi (fun x_12 h_x_12 => ?_)
          have h := h x_12 h_x_12
          refine k_istore hC (pc := 65) dX12_gain_65 [(6, .int x_12), (5, .int r_9), (0, .ref (adr X.G a 6 0)), (1, .int x1), (2, .int x2), (3, .int x3), (4, .int x4)] (by decide) rfl ?_
          refine k_iconst hC (pc := 67) (v := 0) dX12_gain_67 ic_0 ?_
          refine k_istore hC (pc := 68) dX12_gain_68 [(7, .int 0), (6, .int x_12), (5, .int r_9), (0, .ref (adr X.G a 6 0)), (1, .int x1), (2, .int x2), (3, .int x3), (4, .int x4)] (by decide) rfl ?_
          refine k_lconst hC (pc := 70) (v := 0) dX12_gain_70 rfl ?_
          refine k_lstore hC (pc := 71) dX12_gain_71 [(8, .long 0), (7, .int 0), (6, .int x_12), (5, .int r_9), (0, .ref (adr X.G a 6 0)), (1, .int x1), (2, .int x2), (3, .int x3), (4, .int x4)] (by decide) rfl ?_
          refine k_iconst hC (pc := 73) (v := 0) dX12_gain_73 ic_0 ?_
          refine k_istore hC (pc := 74) dX12_gain_74 [(10, .int 0), (8, .long 0), (7, .int 0), (6, .int x_12), (5, .int r_9), (0, .ref (adr X.G a 6 0)), (1, .int x1), (2, .int x2), (3, .int x3), (4, .int x4)] (by decide) rfl ?_
          refine k_sub [(0, .ref (adr X.G a 6 0)), (4, .int x4), (6, .int x_12), (7, .int 0), (8, .long 0), (10, .int 0)] [5, 9, 3, 2, 1, 0] rfl ?_
          exact b_X12_gain_76 hC hR hQ hr N _ _ _ _ _ _ h
        · have h := h.2 c_11
          refine k_ldc2 hC (pc := 55) dX12_gain_55 cn_RX12_184 ?_
          exact k_lret hC (pc := 58) hQ hr dX12_gain_58 h
      · have h := h.2 c_10
        refine k_aload_n hC (pc := 39) dX12_gain_39 1 rfl ?_
        refine k_iload hC (pc := 40) dX12_gain_40 0 rfl ?_
        refine k_cl (rn_V hC (pc := 42) (As := [.int r_9]) (rest := []) ca_X12_lostBeing ml_RX12_334 im_X12_lostBeing se_X12_lostBeing (fx_in f6_0) (ob6_0 _ _ _ _ _) rfl rfl (ct_X12_lostBeing r_9 h) (by rw [hR]; exact ⟨rfl, rfl, by decide, by decide⟩) rfl (Nat.le_of_ble_eq_true rfl) dX12_gain_42 ⟨by rw [hR]; decide, by rw [hR]; decide⟩) (fun r_28 s_27 h => ?_)
        exact k_lret hC (pc := 45) hQ hr dX12_gain_45 h
    · have h := h.2 c_7
      refine k_ldc2 hC (pc := 19) dX12_gain_19 cn_RX12_184 ?_
      exact k_lret hC (pc := 22) hQ hr dX12_gain_22 h
theorem ct_X12_gain {l : Launch} {G : Gx} {a : Ax} {s : Sx} {N : Nat} {post : Int64 → Sx → Prop} (x1 : Int32) (x2 : Int32) (x3 : Int32) (x4 : Int32) (h : w_X12_gain N x1 x2 x3 x4 s post) : Met l yX12_gain (Cond.code yX12_gain cX12_gain 12 (some .long) :: gw) { frames := 2, cells := 0, slots := 0, locals := 42 } (va_Pc [.ref (adr G a 6 0), .int x1, .int x2, .int x3, .int x4] (fun U => FU G a s U)) (Ql G a post) 0 0 (bs_ G) := met_of (plainFor_of_name (by decide)) (Nat.le_of_ble_eq_true rfl) rfl (fun X hC hl hR hQ hr hG hn => by subst hG; exact b_X12_gain hC hR hQ hr hn s x1 x2 x3 x4 h)
theorem ca_X12_gain : Ca yX12_gain cX12_gain 12 (some .long) 4 := ⟨cd_X12_gain, ii_RX12, by decide, by decide, by decide +kernel⟩
def w_X12_go_68 (N : Nat) (post : Int32 → Sx → Prop) : Nat → Sx → Int32 → Prop
  | 0, _, _ => False
  | n + 1, s, x1 => ((s.1 6 0 5) ≤ x1 → post 1 s) ∧ (¬ ((s.1 6 0 5) ≤ x1) → vp_in x1 7 ∧ vp_in x1 7 ∧ ∀ s_8, s_8 = setI s 5 6 x1.toNatClampNeg (s.1 5 69 x1.toNatClampNeg) → vp_in x1 7 ∧ vp_in x1 7 ∧ ∀ s_11, s_11 = setI s_8 5 7 x1.toNatClampNeg (s_8.1 5 70 x1.toNatClampNeg) → ∀ x_12 : Int32, x_12 = x1 + 1 → w_X12_go_68 N post n s_11 x_12)
def w_X12_go_22 (N : Nat) (post : Int32 → Sx → Prop) : Nat → Sx → Int32 → Prop
  | 0, _, _ => False
  | n + 1, s, x1 => ((s.1 6 0 5) ≤ x1 → w_X12_go_68 N post N s 0) ∧ (¬ ((s.1 6 0 5) ≤ x1) → w_X12_placeOf N x1 s (fun r_14 s_13 => vp_in r_14 8 ∧ vp_in x1 7 ∧ ∀ s_17, s_17 = setI s_13 5 69 x1.toNatClampNeg (s_13.1 5 64 r_14.toNatClampNeg) → vp_in r_14 8 ∧ vp_in x1 7 ∧ ∀ s_20, s_20 = setI s_17 5 70 x1.toNatClampNeg (s_17.1 5 65 r_14.toNatClampNeg) → ∀ x_21 : Int32, x_21 = x1 + 1 → w_X12_go_22 N post n s_20 x_21))
def w_X12_go (N : Nat) (s : Sx) (post : Int32 → Sx → Prop) : Prop := w_X12_layMoves N s (fun s_1 => vp_in 0 256 ∧ (¬ (lg_cmp (s_1.2.1 5 68 (0 : Int32).toNatClampNeg) ((-9223372036854775808))) = 0 → w_X12_go_22 N post N s_1 0) ∧ (¬ (¬ (lg_cmp (s_1.2.1 5 68 (0 : Int32).toNatClampNeg) ((-9223372036854775808))) = 0) → post ((-3)) s_1))
set_option maxHeartbeats 4000000 in
theorem b_X12_go_68 {X : Kx} {a : Ax} {N : Nat} {post : Int32 → Sx → Prop}  (hC : Cx X cX12_go 3 RX12) (hR : X.R = { frames := 3, cells := 0, slots := 0, locals := 67 }) (hQ : X.Q = MQ X.below (Qi X.G a post) X.av X.s 0 0 (bs_ X.G)) (hr : X.meth.sig.returnType = (some .int))   : ∀ (n : Nat) (s : Sx) (x1 : Int32), w_X12_go_68 N post  n s x1 → wk X a s 3 68 [(0, .ref (adr X.G a 6 0)), (1, .int x1)] [] 0 0 := by
  intro n
  induction n with
  | zero => intro s x1 h; exact h.elim
  | succ n ih =>
    intro s x1 h
    unfold w_X12_go_68 at h
    refine k_iload_n hC (pc := 68) dX12_go_68 1 rfl ?_
    refine k_aload_n hC (pc := 69) dX12_go_69 0 rfl ?_
    refine gf_X12_5 hC (pc := 70)  fl_RX12_190 dX12_go_70 ?_
    refine k_icmp_ge hC (pc := 73) 106 dX12_go_73 (by decide) (fun c_5 => ?_) (fun c_5 => ?_)
    · have h := h.1 c_5
      refine k_iconst hC (pc := 106) (v := 1) dX12_go_106 ic_1 ?_
      exact k_iret hC (pc := 107) hQ hr dX12_go_107 h
    · have h := h.2 c_5
      refine k_aload_n hC (pc := 76) dX12_go_76 0 rfl ?_
      refine gf_X12_6 hC (pc := 77)  fl_RX12_19 dX12_go_77 ?_
      refine k_iload_n hC (pc := 80) dX12_go_80 1 rfl ?_
      refine k_aload_n hC (pc := 81) dX12_go_81 0 rfl ?_
      refine gf_X12_69 hC (pc := 82)  fl_RX12_175 dX12_go_82 ?_
      refine k_iload_n hC (pc := 85) dX12_go_85 1 rfl ?_
      obtain ⟨c_6, h⟩ := h
      refine r_iald hC (pc := 86) ra5_69 c_6 dX12_go_86 ?_
      obtain ⟨c_7, h⟩ := h
      refine r_iast hC (pc := 87) ra5_6 c_7 dX12_go_87 (fun s_8 h_s_8 => ?_)
      have h := h s_8 h_s_8
      refine k_aload_n hC (pc := 88) dX12_go_88 0 rfl ?_
      refine gf_X12_7 hC (pc := 89)  fl_RX12_22 dX12_go_89 ?_
      refine k_iload_n hC (pc := 92) dX12_go_92 1 rfl ?_
      refine k_aload_n hC (pc := 93) dX12_go_93 0 rfl ?_
      refine gf_X12_70 hC (pc := 94)  fl_RX12_178 dX12_go_94 ?_
      refine k_iload_n hC (pc := 97) dX12_go_97 1 rfl ?_
      obtain ⟨c_9, h⟩ := h
      refine r_iald hC (pc := 98) ra5_70 c_9 dX12_go_98 ?_
      obtain ⟨c_10, h⟩ := h
      refine r_iast hC (pc := 99) ra5_7 c_10 dX12_go_99 (fun s_11 h_s_11 => ?_)
      have h := h s_11 h_s_11
      obtain ⟨x_12, h_x_12⟩ : ∃ z : Int32, z = x1 + 1 := ⟨_, rfl⟩
      have h := h x_12 h_x_12
      refine k_iincw hC (pc := 100) dX12_go_100 1 rfl ic_1 h_x_12.symm [(1, .int x_12), (0, .ref (adr X.G a 6 0))] (by decide) rfl ?_
      refine k_goto hC (pc := 103) 68 dX12_go_103 (by decide) ?_
      refine k_sub [(0, .ref (adr X.G a 6 0)), (1, .int x_12)] [1, 0] rfl ?_
      exact ih _ _ h
set_option maxHeartbeats 4000000 in
theorem b_X12_go_22 {X : Kx} {a : Ax} {N : Nat} {post : Int32 → Sx → Prop}  (hC : Cx X cX12_go 3 RX12) (hR : X.R = { frames := 3, cells := 0, slots := 0, locals := 67 }) (hQ : X.Q = MQ X.below (Qi X.G a post) X.av X.s 0 0 (bs_ X.G)) (hr : X.meth.sig.returnType = (some .int))   : ∀ (n : Nat) (s : Sx) (x1 : Int32), w_X12_go_22 N post  n s x1 → wk X a s 3 22 [(0, .ref (adr X.G a 6 0)), (1, .int x1)] [] 0 0 := by
  intro n
  induction n with
  | zero => intro s x1 h; exact h.elim
  | succ n ih =>
    intro s x1 h
    unfold w_X12_go_22 at h
    refine k_iload_n hC (pc := 22) dX12_go_22 1 rfl ?_
    refine k_aload_n hC (pc := 23) dX12_go_23 0 rfl ?_
    refine gf_X12_5 hC (pc := 24)  fl_RX12_190 dX12_go_24 ?_
    refine k_icmp_ge hC (pc := 27) 66 dX12_go_27 (by decide) (fun c_4 => ?_) (fun c_4 => ?_)
    · have h := h.1 c_4
      refine k_iconst hC (pc := 66) (v := 0) dX12_go_66 ic_0 ?_
      refine k_istore_n hC (pc := 67) dX12_go_67 [(1, .int 0), (0, .ref (adr X.G a 6 0))] (by decide) rfl ?_
      refine k_sub [(0, .ref (adr X.G a 6 0)), (1, .int 0)] [1, 0] rfl ?_
      exact b_X12_go_68 hC hR hQ hr N _ _ h
    · have h := h.2 c_4
      refine k_aload_n hC (pc := 30) dX12_go_30 0 rfl ?_
      refine k_iload_n hC (pc := 31) dX12_go_31 1 rfl ?_
      refine k_ci (rn_V hC (pc := 32) (As := [.int x1]) (rest := []) ca_X12_placeOf ml_RX12_331 im_X12_placeOf se_X12_placeOf (fx_in f6_0) (ob6_0 _ _ _ _ _) rfl rfl (ct_X12_placeOf x1 h) (by rw [hR]; exact ⟨rfl, rfl, by decide, by decide⟩) rfl (Nat.le_of_ble_eq_true rfl) dX12_go_32 ⟨by rw [hR]; decide, by rw [hR]; decide⟩) (fun r_14 s_13 h => ?_)
      refine k_istore_n hC (pc := 35) dX12_go_35 [(2, .int r_14), (0, .ref (adr X.G a 6 0)), (1, .int x1)] (by decide) rfl ?_
      refine k_aload_n hC (pc := 36) dX12_go_36 1 rfl ?_
      refine gf_X12_69 hC (pc := 37)  fl_RX12_175 dX12_go_37 ?_
      refine k_iload_n hC (pc := 40) dX12_go_40 2 rfl ?_
      refine k_aload_n hC (pc := 41) dX12_go_41 1 rfl ?_
      refine gf_X12_64 hC (pc := 42)  fl_RX12_158 dX12_go_42 ?_
      refine k_iload_n hC (pc := 45) dX12_go_45 0 rfl ?_
      obtain ⟨c_15, h⟩ := h
      refine r_iald hC (pc := 46) ra5_64 c_15 dX12_go_46 ?_
      obtain ⟨c_16, h⟩ := h
      refine r_iast hC (pc := 47) ra5_69 c_16 dX12_go_47 (fun s_17 h_s_17 => ?_)
      have h := h s_17 h_s_17
      refine k_aload_n hC (pc := 48) dX12_go_48 1 rfl ?_
      refine gf_X12_70 hC (pc := 49)  fl_RX12_178 dX12_go_49 ?_
      refine k_iload_n hC (pc := 52) dX12_go_52 2 rfl ?_
      refine k_aload_n hC (pc := 53) dX12_go_53 1 rfl ?_
      refine gf_X12_65 hC (pc := 54)  fl_RX12_161 dX12_go_54 ?_
      refine k_iload_n hC (pc := 57) dX12_go_57 0 rfl ?_
      obtain ⟨c_18, h⟩ := h
      refine r_iald hC (pc := 58) ra5_65 c_18 dX12_go_58 ?_
      obtain ⟨c_19, h⟩ := h
      refine r_iast hC (pc := 59) ra5_70 c_19 dX12_go_59 (fun s_20 h_s_20 => ?_)
      have h := h s_20 h_s_20
      obtain ⟨x_21, h_x_21⟩ : ∃ z : Int32, z = x1 + 1 := ⟨_, rfl⟩
      have h := h x_21 h_x_21
      refine k_iincw hC (pc := 60) dX12_go_60 2 rfl ic_1 h_x_21.symm [(1, .int x_21), (2, .int r_14), (0, .ref (adr X.G a 6 0))] (by decide) rfl ?_
      refine k_goto hC (pc := 63) 22 dX12_go_63 (by decide) ?_
      refine k_sub [(0, .ref (adr X.G a 6 0)), (1, .int x_21)] [2, 0] rfl ?_
      exact ih _ _ h
set_option maxHeartbeats 4000000 in
theorem b_X12_go {X : Kx} {a : Ax} {N : Nat} {post : Int32 → Sx → Prop} (hC : Cx X cX12_go 3 RX12) (hR : X.R = { frames := 3, cells := 0, slots := 0, locals := 67 }) (hQ : X.Q = MQ X.below (Qi X.G a post) X.av X.s 0 0 (bs_ X.G)) (hr : X.meth.sig.returnType = (some .int)) (hn : X.meth.name = "go") (s : Sx) (h : w_X12_go N s post) : wk X a s 3 0 [(0, .ref (adr X.G a 6 0))] [] 0 0 := by
  unfold w_X12_go at h
  refine k_aload_n hC (pc := 0) dX12_go_0 0 rfl ?_
  refine k_cv (rn_V hC (pc := 1) (As := []) (rest := []) ca_X12_layMoves ml_RX12_326 im_X12_layMoves se_X12_layMoves (fx_in f6_0) (ob6_0 _ _ _ _ _) rfl rfl (ct_X12_layMoves h) (by rw [hR]; exact ⟨rfl, rfl, by decide, by decide⟩) rfl (Nat.le_of_ble_eq_true rfl) dX12_go_1 ⟨by rw [hR]; decide, by rw [hR]; decide⟩) (fun s_1 h => ?_)
  refine k_aload_n hC (pc := 4) dX12_go_4 0 rfl ?_
  refine gf_X12_68 hC (pc := 5)  fl_RX12_171 dX12_go_5 ?_
  refine k_iconst hC (pc := 8) (v := 0) dX12_go_8 ic_0 ?_
  obtain ⟨c_2, h⟩ := h
  refine r_lald hC (pc := 9) ra5_68 c_2 dX12_go_9 ?_
  refine k_ldc2 hC (pc := 10) dX12_go_10 cn_RX12_184 ?_
  refine k_lcmp hC (pc := 13) dX12_go_13 ?_
  refine k_if_ne hC (pc := 14) 20 dX12_go_14 (by decide) (fun c_3 => ?_) (fun c_3 => ?_)
  · have h := h.1 c_3
    refine k_iconst hC (pc := 20) (v := 0) dX12_go_20 ic_0 ?_
    refine k_istore_n hC (pc := 21) dX12_go_21 [(1, .int 0), (0, .ref (adr X.G a 6 0))] (by decide) rfl ?_
    refine k_sub [(0, .ref (adr X.G a 6 0)), (1, .int 0)] [1, 0] rfl ?_
    exact b_X12_go_22 hC hR hQ hr N _ _ h
  · have h := h.2 c_3
    refine k_bipush hC (pc := 17) (v := (-3)) dX12_go_17 bp_m3 ?_
    exact k_iret hC (pc := 19) hQ hr dX12_go_19 h
theorem ct_X12_go {l : Launch} {G : Gx} {a : Ax} {s : Sx} {N : Nat} {post : Int32 → Sx → Prop} (h : w_X12_go N s post) : Met l yX12_go (Cond.code yX12_go cX12_go 3 (some .int) :: gw) { frames := 3, cells := 0, slots := 0, locals := 67 } (va_Pc [.ref (adr G a 6 0)] (fun U => FU G a s U)) (Qi G a post) 0 0 (bs_ G) := met_of (plainFor_of_name (by decide)) (Nat.le_of_ble_eq_true rfl) rfl (fun X hC hl hR hQ hr hG hn => by subst hG; exact b_X12_go hC hR hQ hr hn s h)
theorem ca_X12_go : Ca yX12_go cX12_go 3 (some .int) 0 := ⟨cd_X12_go, ii_RX12, by decide, by decide, by decide +kernel⟩
def w_X12_spot (N : Nat) (x1 : Int32) (x2 : Int32) (s : Sx) (post : Int32 → Sx → Prop) : Prop := w_X12_isCamp N x1 s (fun r_2 s_1 => (¬ r_2 = 0 → (¬ x2 = 0 → (¬ x2 = 1 → post ((-2)) s_1) ∧ (¬ (¬ x2 = 1) → vp_in x1 7 ∧ post (s_1.1 5 7 x1.toNatClampNeg) s_1)) ∧ (¬ (¬ x2 = 0) → vp_in x1 7 ∧ post (s_1.1 5 6 x1.toNatClampNeg) s_1)) ∧ (¬ (¬ r_2 = 0) → post ((-1)) s_1))
set_option maxHeartbeats 4000000 in
theorem b_X12_spot {X : Kx} {a : Ax} {N : Nat} {post : Int32 → Sx → Prop} (hC : Cx X cX12_spot 3 RX12) (hR : X.R = { frames := 1, cells := 0, slots := 0, locals := 21 }) (hQ : X.Q = MQ X.below (Qi X.G a post) X.av X.s 0 0 (bs_ X.G)) (hr : X.meth.sig.returnType = (some .int)) (hn : X.meth.name = "spot") (s : Sx) (x1 : Int32) (x2 : Int32) (h : w_X12_spot N x1 x2 s post) : wk X a s 3 0 [(0, .ref (adr X.G a 6 0)), (1, .int x1), (2, .int x2)] [] 0 0 := by
  unfold w_X12_spot at h
  refine k_aload_n hC (pc := 0) dX12_spot_0 0 rfl ?_
  refine k_iload_n hC (pc := 1) dX12_spot_1 1 rfl ?_
  refine k_ci (rn_V hC (pc := 2) (As := [.int x1]) (rest := []) ca_X12_isCamp ml_RX12_210 im_X12_isCamp se_X12_isCamp (fx_in f6_0) (ob6_0 _ _ _ _ _) rfl rfl (ct_X12_isCamp x1 h) (by rw [hR]; exact ⟨rfl, rfl, by decide, by decide⟩) rfl (Nat.le_of_ble_eq_true rfl) dX12_spot_2 ⟨by rw [hR]; decide, by rw [hR]; decide⟩) (fun r_2 s_1 h => ?_)
  refine k_if_ne hC (pc := 5) 10 dX12_spot_5 (by decide) (fun c_3 => ?_) (fun c_3 => ?_)
  · have h := h.1 c_3
    refine k_iload_n hC (pc := 10) dX12_spot_10 2 rfl ?_
    refine k_if_ne hC (pc := 11) 23 dX12_spot_11 (by decide) (fun c_4 => ?_) (fun c_4 => ?_)
    · have h := h.1 c_4
      refine k_iload_n hC (pc := 23) dX12_spot_23 2 rfl ?_
      refine k_iconst hC (pc := 24) (v := 1) dX12_spot_24 ic_1 ?_
      refine k_icmp_ne hC (pc := 25) 37 dX12_spot_25 (by decide) (fun c_5 => ?_) (fun c_5 => ?_)
      · have h := h.1 c_5
        refine k_bipush hC (pc := 37) (v := (-2)) dX12_spot_37 bp_m2 ?_
        exact k_iret hC (pc := 39) hQ hr dX12_spot_39 h
      · have h := h.2 c_5
        refine k_aload_n hC (pc := 28) dX12_spot_28 0 rfl ?_
        refine gf_X12_7 hC (pc := 29)  fl_RX12_22 dX12_spot_29 ?_
        refine k_iload_n hC (pc := 32) dX12_spot_32 1 rfl ?_
        obtain ⟨c_6, h⟩ := h
        refine r_iald hC (pc := 33) ra5_7 c_6 dX12_spot_33 ?_
        refine k_goto hC (pc := 34) 39 dX12_spot_34 (by decide) ?_
        exact k_iret hC (pc := 39) hQ hr dX12_spot_39 h
    · have h := h.2 c_4
      refine k_aload_n hC (pc := 14) dX12_spot_14 0 rfl ?_
      refine gf_X12_6 hC (pc := 15)  fl_RX12_19 dX12_spot_15 ?_
      refine k_iload_n hC (pc := 18) dX12_spot_18 1 rfl ?_
      obtain ⟨c_7, h⟩ := h
      refine r_iald hC (pc := 19) ra5_6 c_7 dX12_spot_19 ?_
      refine k_goto hC (pc := 20) 39 dX12_spot_20 (by decide) ?_
      exact k_iret hC (pc := 39) hQ hr dX12_spot_39 h
  · have h := h.2 c_3
    refine k_iconst hC (pc := 8) (v := (-1)) dX12_spot_8 ic_m1 ?_
    exact k_iret hC (pc := 9) hQ hr dX12_spot_9 h
theorem ct_X12_spot {l : Launch} {G : Gx} {a : Ax} {s : Sx} {N : Nat} {post : Int32 → Sx → Prop} (x1 : Int32) (x2 : Int32) (h : w_X12_spot N x1 x2 s post) : Met l yX12_spot (Cond.code yX12_spot cX12_spot 3 (some .int) :: gw) { frames := 1, cells := 0, slots := 0, locals := 21 } (va_Pc [.ref (adr G a 6 0), .int x1, .int x2] (fun U => FU G a s U)) (Qi G a post) 0 0 (bs_ G) := met_of (plainFor_of_name (by decide)) (Nat.le_of_ble_eq_true rfl) rfl (fun X hC hl hR hQ hr hG hn => by subst hG; exact b_X12_spot hC hR hQ hr hn s x1 x2 h)
theorem ca_X12_spot : Ca yX12_spot cX12_spot 3 (some .int) 2 := ⟨cd_X12_spot, ii_RX12, by decide, by decide, by decide +kernel⟩
def w_X12_sheet_57 (N : Nat) (post : Int32 → Sx → Prop) : Nat → Sx → Int32 → Int32 → Prop
  | 0, _, _, _ => False
  | n + 1, s, x1, x4 => (60 ≤ x4 → post 1 s) ∧ (¬ (60 ≤ x4) → vp_in ((60 * x1) + x4) 240 ∧ ∀ s_16, s_16 = setI s 5 4 ((60 * x1) + x4).toNatClampNeg 0 → ∀ x_17 : Int32, x_17 = x4 + 1 → w_X12_sheet_57 N post n s_16 x1 x_17)
def w_X12_sheet (N : Nat) (x1 : Int32) (x2 : Int32) (x3 : Int32) (s : Sx) (post : Int32 → Sx → Prop) : Prop := ∀ s_1, s_1 = setI s 6 0 0 0 → w_X12_isSheet N x1 s_1 (fun r_3 s_2 => (¬ r_3 = 0 → w_X12_isLane N x2 s_2 (fun r_6 s_5 => (r_6 = 0 → post ((-2)) s_5) ∧ (¬ (r_6 = 0) → (x3 ≤ 60 → (0 ≤ x3 → vp_in x1 4 ∧ ∀ s_11, s_11 = setI s_5 5 2 x1.toNatClampNeg x2 → vp_in x1 4 ∧ ∀ s_13, s_13 = setI s_11 5 3 x1.toNatClampNeg x3 → w_X12_sheet_57 N post N s_13 x1 0) ∧ (¬ (0 ≤ x3) → w_X12_fails N 4 s_5 (fun r_19 s_18 => post r_19 s_18))) ∧ (¬ (x3 ≤ 60) → post ((-2)) s_5)))) ∧ (¬ (¬ r_3 = 0) → post ((-1)) s_2))
set_option maxHeartbeats 4000000 in
theorem b_X12_sheet_57 {X : Kx} {a : Ax} {N : Nat} {post : Int32 → Sx → Prop}  (hC : Cx X cX12_sheet 5 RX12) (hR : X.R = { frames := 2, cells := 0, slots := 0, locals := 42 }) (hQ : X.Q = MQ X.below (Qi X.G a post) X.av X.s 0 0 (bs_ X.G)) (hr : X.meth.sig.returnType = (some .int))   : ∀ (n : Nat) (s : Sx) (x1 : Int32) (x4 : Int32), w_X12_sheet_57 N post  n s x1 x4 → wk X a s 5 57 [(0, .ref (adr X.G a 6 0)), (1, .int x1), (4, .int x4)] [] 0 0 := by
  intro n
  induction n with
  | zero => intro s x1 x4 h; exact h.elim
  | succ n ih =>
    intro s x1 x4 h
    unfold w_X12_sheet_57 at h
    refine k_iload hC (pc := 57) dX12_sheet_57 2 rfl ?_
    refine k_bipush hC (pc := 59) (v := 60) dX12_sheet_59 bp_60 ?_
    refine k_icmp_ge hC (pc := 61) 83 dX12_sheet_61 (by decide) (fun c_14 => ?_) (fun c_14 => ?_)
    · have h := h.1 c_14
      refine k_iconst hC (pc := 83) (v := 1) dX12_sheet_83 ic_1 ?_
      exact k_iret hC (pc := 84) hQ hr dX12_sheet_84 h
    · have h := h.2 c_14
      refine k_aload_n hC (pc := 64) dX12_sheet_64 0 rfl ?_
      refine gf_X12_4 hC (pc := 65)  fl_RX12_16 dX12_sheet_65 ?_
      refine k_bipush hC (pc := 68) (v := 60) dX12_sheet_68 bp_60 ?_
      refine k_iload_n hC (pc := 70) dX12_sheet_70 1 rfl ?_
      refine k_imul hC (pc := 71) dX12_sheet_71 ?_
      refine k_iload hC (pc := 72) dX12_sheet_72 2 rfl ?_
      refine k_iadd hC (pc := 74) dX12_sheet_74 ?_
      refine k_iconst hC (pc := 75) (v := 0) dX12_sheet_75 ic_0 ?_
      obtain ⟨c_15, h⟩ := h
      refine r_iast hC (pc := 76) ra5_4 c_15 dX12_sheet_76 (fun s_16 h_s_16 => ?_)
      have h := h s_16 h_s_16
      obtain ⟨x_17, h_x_17⟩ : ∃ z : Int32, z = x4 + 1 := ⟨_, rfl⟩
      have h := h x_17 h_x_17
      refine k_iincw hC (pc := 77) dX12_sheet_77 2 rfl ic_1 h_x_17.symm [(4, .int x_17), (0, .ref (adr X.G a 6 0)), (1, .int x1)] (by decide) rfl ?_
      refine k_goto hC (pc := 80) 57 dX12_sheet_80 (by decide) ?_
      refine k_sub [(0, .ref (adr X.G a 6 0)), (1, .int x1), (4, .int x_17)] [1, 2, 0] rfl ?_
      exact ih _ _ _ h
set_option maxHeartbeats 4000000 in
theorem b_X12_sheet {X : Kx} {a : Ax} {N : Nat} {post : Int32 → Sx → Prop} (hC : Cx X cX12_sheet 5 RX12) (hR : X.R = { frames := 2, cells := 0, slots := 0, locals := 42 }) (hQ : X.Q = MQ X.below (Qi X.G a post) X.av X.s 0 0 (bs_ X.G)) (hr : X.meth.sig.returnType = (some .int)) (hn : X.meth.name = "sheet") (s : Sx) (x1 : Int32) (x2 : Int32) (x3 : Int32) (h : w_X12_sheet N x1 x2 x3 s post) : wk X a s 5 0 [(0, .ref (adr X.G a 6 0)), (1, .int x1), (2, .int x2), (3, .int x3)] [] 0 0 := by
  unfold w_X12_sheet at h
  refine k_aload_n hC (pc := 0) dX12_sheet_0 0 rfl ?_
  refine k_iconst hC (pc := 1) (v := 0) dX12_sheet_1 ic_0 ?_
  refine pf_X12_0 hC (pc := 2)  fl_RX12_181 dX12_sheet_2 (fun s_1 h_s_1 => ?_)
  have h := h s_1 h_s_1
  refine k_iload_n hC (pc := 5) dX12_sheet_5 1 rfl ?_
  refine k_ci (rn_S hC (pc := 6) (As := [.int x1]) (rest := []) ca_X12_isSheet ml_RX12_239 sm_X12_isSheet (ct_X12_isSheet x1 h) (by rw [hR]; exact ⟨rfl, rfl, by decide, by decide⟩) rfl (Nat.le_of_ble_eq_true rfl) dX12_sheet_6 ⟨by rw [hR]; decide, by rw [hR]; decide⟩) (fun r_3 s_2 h => ?_)
  refine k_if_ne hC (pc := 9) 14 dX12_sheet_9 (by decide) (fun c_4 => ?_) (fun c_4 => ?_)
  · have h := h.1 c_4
    refine k_iload_n hC (pc := 14) dX12_sheet_14 2 rfl ?_
    refine k_ci (rn_S hC (pc := 15) (As := [.int x2]) (rest := []) ca_X12_isLane ml_RX12_242 sm_X12_isLane (ct_X12_isLane x2 h) (by rw [hR]; exact ⟨rfl, rfl, by decide, by decide⟩) rfl (Nat.le_of_ble_eq_true rfl) dX12_sheet_15 ⟨by rw [hR]; decide, by rw [hR]; decide⟩) (fun r_6 s_5 h => ?_)
    refine k_if_eq hC (pc := 18) 27 dX12_sheet_18 (by decide) (fun c_7 => ?_) (fun c_7 => ?_)
    · have h := h.1 c_7
      refine k_bipush hC (pc := 27) (v := (-2)) dX12_sheet_27 bp_m2 ?_
      exact k_iret hC (pc := 29) hQ hr dX12_sheet_29 h
    · have h := h.2 c_7
      refine k_iload_n hC (pc := 21) dX12_sheet_21 3 rfl ?_
      refine k_bipush hC (pc := 22) (v := 60) dX12_sheet_22 bp_60 ?_
      refine k_icmp_le hC (pc := 24) 30 dX12_sheet_24 (by decide) (fun c_8 => ?_) (fun c_8 => ?_)
      · have h := h.1 c_8
        refine k_iload_n hC (pc := 30) dX12_sheet_30 3 rfl ?_
        refine k_if_ge hC (pc := 31) 40 dX12_sheet_31 (by decide) (fun c_9 => ?_) (fun c_9 => ?_)
        · have h := h.1 c_9
          refine k_aload_n hC (pc := 40) dX12_sheet_40 0 rfl ?_
          refine gf_X12_2 hC (pc := 41)  fl_RX12_9 dX12_sheet_41 ?_
          refine k_iload_n hC (pc := 44) dX12_sheet_44 1 rfl ?_
          refine k_iload_n hC (pc := 45) dX12_sheet_45 2 rfl ?_
          obtain ⟨c_10, h⟩ := h
          refine r_iast hC (pc := 46) ra5_2 c_10 dX12_sheet_46 (fun s_11 h_s_11 => ?_)
          have h := h s_11 h_s_11
          refine k_aload_n hC (pc := 47) dX12_sheet_47 0 rfl ?_
          refine gf_X12_3 hC (pc := 48)  fl_RX12_13 dX12_sheet_48 ?_
          refine k_iload_n hC (pc := 51) dX12_sheet_51 1 rfl ?_
          refine k_iload_n hC (pc := 52) dX12_sheet_52 3 rfl ?_
          obtain ⟨c_12, h⟩ := h
          refine r_iast hC (pc := 53) ra5_3 c_12 dX12_sheet_53 (fun s_13 h_s_13 => ?_)
          have h := h s_13 h_s_13
          refine k_iconst hC (pc := 54) (v := 0) dX12_sheet_54 ic_0 ?_
          refine k_istore hC (pc := 55) dX12_sheet_55 [(4, .int 0), (0, .ref (adr X.G a 6 0)), (1, .int x1), (2, .int x2), (3, .int x3)] (by decide) rfl ?_
          refine k_sub [(0, .ref (adr X.G a 6 0)), (1, .int x1), (4, .int 0)] [1, 2, 0] rfl ?_
          exact b_X12_sheet_57 hC hR hQ hr N _ _ _ h
        · have h := h.2 c_9
          refine k_aload_n hC (pc := 34) dX12_sheet_34 0 rfl ?_
          refine k_iconst hC (pc := 35) (v := 4) dX12_sheet_35 ic_4 ?_
          refine k_ci (rn_V hC (pc := 36) (As := [.int 4]) (rest := []) ca_X12_fails ml_RX12_249 im_X12_fails se_X12_fails (fx_in f6_0) (ob6_0 _ _ _ _ _) rfl rfl (ct_X12_fails 4 h) (by rw [hR]; exact ⟨rfl, rfl, by decide, by decide⟩) rfl (Nat.le_of_ble_eq_true rfl) dX12_sheet_36 ⟨by rw [hR]; decide, by rw [hR]; decide⟩) (fun r_19 s_18 h => ?_)
          exact k_iret hC (pc := 39) hQ hr dX12_sheet_39 h
      · have h := h.2 c_8
        refine k_bipush hC (pc := 27) (v := (-2)) dX12_sheet_27 bp_m2 ?_
        exact k_iret hC (pc := 29) hQ hr dX12_sheet_29 h
  · have h := h.2 c_4
    refine k_iconst hC (pc := 12) (v := (-1)) dX12_sheet_12 ic_m1 ?_
    exact k_iret hC (pc := 13) hQ hr dX12_sheet_13 h
theorem ct_X12_sheet {l : Launch} {G : Gx} {a : Ax} {s : Sx} {N : Nat} {post : Int32 → Sx → Prop} (x1 : Int32) (x2 : Int32) (x3 : Int32) (h : w_X12_sheet N x1 x2 x3 s post) : Met l yX12_sheet (Cond.code yX12_sheet cX12_sheet 5 (some .int) :: gw) { frames := 2, cells := 0, slots := 0, locals := 42 } (va_Pc [.ref (adr G a 6 0), .int x1, .int x2, .int x3] (fun U => FU G a s U)) (Qi G a post) 0 0 (bs_ G) := met_of (plainFor_of_name (by decide)) (Nat.le_of_ble_eq_true rfl) rfl (fun X hC hl hR hQ hr hG hn => by subst hG; exact b_X12_sheet hC hR hQ hr hn s x1 x2 x3 h)
theorem ca_X12_sheet : Ca yX12_sheet cX12_sheet 5 (some .int) 3 := ⟨cd_X12_sheet, ii_RX12, by decide, by decide, by decide +kernel⟩
def w_X12_lose_25 (N : Nat) (post : Int32 → Sx → Prop) (s : Sx) (x1 : Int32) (z0 : Int32) : Prop := vp_in x1 4 ∧ ∀ s_7, s_7 = setI s 5 2 x1.toNatClampNeg ((-9)) → post z0 s_7
def w_X12_lose (N : Nat) (x1 : Int32) (s : Sx) (post : Int32 → Sx → Prop) : Prop := w_X12_isSheet N x1 s (fun r_2 s_1 => (¬ r_2 = 0 → vp_in x1 4 ∧ (¬ (s_1.1 5 2 x1.toNatClampNeg) = ((-9)) → w_X12_lose_25 N post s_1 x1 1) ∧ (¬ (¬ (s_1.1 5 2 x1.toNatClampNeg) = ((-9))) → w_X12_lose_25 N post s_1 x1 0)) ∧ (¬ (¬ r_2 = 0) → post ((-1)) s_1))
set_option maxHeartbeats 4000000 in
theorem b_X12_lose_25 {X : Kx} {a : Ax} {N : Nat} {post : Int32 → Sx → Prop}  (hC : Cx X cX12_lose 3 RX12) (hR : X.R = { frames := 2, cells := 0, slots := 0, locals := 42 }) (hQ : X.Q = MQ X.below (Qi X.G a post) X.av X.s 0 0 (bs_ X.G)) (hr : X.meth.sig.returnType = (some .int))   (s : Sx) (x1 : Int32) (z0 : Int32) (h : w_X12_lose_25 N post  s x1 z0) : wk X a s 3 25 [(0, .ref (adr X.G a 6 0)), (1, .int x1)] [.int z0] 0 0 := by
  unfold w_X12_lose_25 at h
  refine k_istore_n hC (pc := 25) dX12_lose_25 [(2, .int z0), (0, .ref (adr X.G a 6 0)), (1, .int x1)] (by decide) rfl ?_
  refine k_aload_n hC (pc := 26) dX12_lose_26 1 rfl ?_
  refine gf_X12_2 hC (pc := 27)  fl_RX12_9 dX12_lose_27 ?_
  refine k_iload_n hC (pc := 30) dX12_lose_30 2 rfl ?_
  refine k_bipush hC (pc := 31) (v := (-9)) dX12_lose_31 bp_m9 ?_
  obtain ⟨c_6, h⟩ := h
  refine r_iast hC (pc := 33) ra5_2 c_6 dX12_lose_33 (fun s_7 h_s_7 => ?_)
  have h := h s_7 h_s_7
  refine k_iload_n hC (pc := 34) dX12_lose_34 0 rfl ?_
  exact k_iret hC (pc := 35) hQ hr dX12_lose_35 h
set_option maxHeartbeats 4000000 in
theorem b_X12_lose {X : Kx} {a : Ax} {N : Nat} {post : Int32 → Sx → Prop} (hC : Cx X cX12_lose 3 RX12) (hR : X.R = { frames := 2, cells := 0, slots := 0, locals := 42 }) (hQ : X.Q = MQ X.below (Qi X.G a post) X.av X.s 0 0 (bs_ X.G)) (hr : X.meth.sig.returnType = (some .int)) (hn : X.meth.name = "lose") (s : Sx) (x1 : Int32) (h : w_X12_lose N x1 s post) : wk X a s 3 0 [(0, .ref (adr X.G a 6 0)), (1, .int x1)] [] 0 0 := by
  unfold w_X12_lose at h
  refine k_iload_n hC (pc := 0) dX12_lose_0 1 rfl ?_
  refine k_ci (rn_S hC (pc := 1) (As := [.int x1]) (rest := []) ca_X12_isSheet ml_RX12_239 sm_X12_isSheet (ct_X12_isSheet x1 h) (by rw [hR]; exact ⟨rfl, rfl, by decide, by decide⟩) rfl (Nat.le_of_ble_eq_true rfl) dX12_lose_1 ⟨by rw [hR]; decide, by rw [hR]; decide⟩) (fun r_2 s_1 h => ?_)
  refine k_if_ne hC (pc := 4) 9 dX12_lose_4 (by decide) (fun c_3 => ?_) (fun c_3 => ?_)
  · have h := h.1 c_3
    refine k_aload_n hC (pc := 9) dX12_lose_9 0 rfl ?_
    refine gf_X12_2 hC (pc := 10)  fl_RX12_9 dX12_lose_10 ?_
    refine k_iload_n hC (pc := 13) dX12_lose_13 1 rfl ?_
    obtain ⟨c_4, h⟩ := h
    refine r_iald hC (pc := 14) ra5_2 c_4 dX12_lose_14 ?_
    refine k_bipush hC (pc := 15) (v := (-9)) dX12_lose_15 bp_m9 ?_
    refine k_icmp_ne hC (pc := 17) 24 dX12_lose_17 (by decide) (fun c_5 => ?_) (fun c_5 => ?_)
    · have h := h.1 c_5
      refine k_iconst hC (pc := 24) (v := 1) dX12_lose_24 ic_1 ?_
      exact b_X12_lose_25 hC hR hQ hr _ _ _ h
    · have h := h.2 c_5
      refine k_iconst hC (pc := 20) (v := 0) dX12_lose_20 ic_0 ?_
      refine k_goto hC (pc := 21) 25 dX12_lose_21 (by decide) ?_
      exact b_X12_lose_25 hC hR hQ hr _ _ _ h
  · have h := h.2 c_3
    refine k_iconst hC (pc := 7) (v := (-1)) dX12_lose_7 ic_m1 ?_
    exact k_iret hC (pc := 8) hQ hr dX12_lose_8 h
theorem ct_X12_lose {l : Launch} {G : Gx} {a : Ax} {s : Sx} {N : Nat} {post : Int32 → Sx → Prop} (x1 : Int32) (h : w_X12_lose N x1 s post) : Met l yX12_lose (Cond.code yX12_lose cX12_lose 3 (some .int) :: gw) { frames := 2, cells := 0, slots := 0, locals := 42 } (va_Pc [.ref (adr G a 6 0), .int x1] (fun U => FU G a s U)) (Qi G a post) 0 0 (bs_ G) := met_of (plainFor_of_name (by decide)) (Nat.le_of_ble_eq_true rfl) rfl (fun X hC hl hR hQ hr hG hn => by subst hG; exact b_X12_lose hC hR hQ hr hn s x1 h)
theorem ca_X12_lose : Ca yX12_lose cX12_lose 3 (some .int) 1 := ⟨cd_X12_lose, ii_RX12, by decide, by decide, by decide +kernel⟩
def w_X12_put_93 (N : Nat) (post : Int32 → Sx → Prop) (s : Sx) (z1 : Int32) (z2 : Int32) : Prop := vp_in z1 240 ∧ ∀ s_16, s_16 = setI s 5 4 z1.toNatClampNeg z2 → post 1 s_16
def w_X12_put (N : Nat) (x1 : Int32) (x2 : Int32) (x3 : Int32) (s : Sx) (post : Int32 → Sx → Prop) : Prop := ∀ s_1, s_1 = setI s 6 0 0 0 → w_X12_isSheet N x1 s_1 (fun r_3 s_2 => (¬ r_3 = 0 → vp_in x1 4 ∧ (¬ (s_2.1 5 2 x1.toNatClampNeg) = ((-9)) → vp_in x1 4 ∧ w_X12_within N x2 0 ((s_2.1 5 3 x1.toNatClampNeg) - 1) s_2 (fun r_9 s_8 => (¬ r_9 = 0 → vp_in x1 4 ∧ (¬ (s_8.1 5 2 x1.toNatClampNeg) = 0 → vp_in x1 4 ∧ (¬ (s_8.1 5 2 x1.toNatClampNeg) = 1 → w_X12_put_93 N post s_8 ((60 * x1) + x2) x3) ∧ (¬ (¬ (s_8.1 5 2 x1.toNatClampNeg) = 1) → w_X12_put_93 N post s_8 ((60 * x1) + x2) x3.toInt16.toInt32)) ∧ (¬ (¬ (s_8.1 5 2 x1.toNatClampNeg) = 0) → w_X12_put_93 N post s_8 ((60 * x1) + x2) x3.toInt8.toInt32)) ∧ (¬ (¬ r_9 = 0) → w_X12_fails N 3 s_8 (fun r_18 s_17 => post r_18 s_17)))) ∧ (¬ (¬ (s_2.1 5 2 x1.toNatClampNeg) = ((-9))) → w_X12_fails N 1 s_2 (fun r_20 s_19 => post r_20 s_19))) ∧ (¬ (¬ r_3 = 0) → post ((-1)) s_2))
set_option maxHeartbeats 4000000 in
theorem b_X12_put_93 {X : Kx} {a : Ax} {N : Nat} {post : Int32 → Sx → Prop}  (hC : Cx X cX12_put 4 RX12) (hR : X.R = { frames := 2, cells := 0, slots := 0, locals := 42 }) (hQ : X.Q = MQ X.below (Qi X.G a post) X.av X.s 0 0 (bs_ X.G)) (hr : X.meth.sig.returnType = (some .int))   (s : Sx) (z1 : Int32) (z2 : Int32) (h : w_X12_put_93 N post  s z1 z2) : wk X a s 4 93 [] [.int z2, .int z1, .ref (adr X.G a 5 4)] 0 0 := by
  unfold w_X12_put_93 at h
  obtain ⟨c_15, h⟩ := h
  refine r_iast hC (pc := 93) ra5_4 c_15 dX12_put_93 (fun s_16 h_s_16 => ?_)
  have h := h s_16 h_s_16
  refine k_iconst hC (pc := 94) (v := 1) dX12_put_94 ic_1 ?_
  exact k_iret hC (pc := 95) hQ hr dX12_put_95 h
set_option maxHeartbeats 4000000 in
theorem b_X12_put {X : Kx} {a : Ax} {N : Nat} {post : Int32 → Sx → Prop} (hC : Cx X cX12_put 4 RX12) (hR : X.R = { frames := 2, cells := 0, slots := 0, locals := 42 }) (hQ : X.Q = MQ X.below (Qi X.G a post) X.av X.s 0 0 (bs_ X.G)) (hr : X.meth.sig.returnType = (some .int)) (hn : X.meth.name = "put") (s : Sx) (x1 : Int32) (x2 : Int32) (x3 : Int32) (h : w_X12_put N x1 x2 x3 s post) : wk X a s 4 0 [(0, .ref (adr X.G a 6 0)), (1, .int x1), (2, .int x2), (3, .int x3)] [] 0 0 := by
  unfold w_X12_put at h
  refine k_aload_n hC (pc := 0) dX12_put_0 0 rfl ?_
  refine k_iconst hC (pc := 1) (v := 0) dX12_put_1 ic_0 ?_
  refine pf_X12_0 hC (pc := 2)  fl_RX12_181 dX12_put_2 (fun s_1 h_s_1 => ?_)
  have h := h s_1 h_s_1
  refine k_iload_n hC (pc := 5) dX12_put_5 1 rfl ?_
  refine k_ci (rn_S hC (pc := 6) (As := [.int x1]) (rest := []) ca_X12_isSheet ml_RX12_239 sm_X12_isSheet (ct_X12_isSheet x1 h) (by rw [hR]; exact ⟨rfl, rfl, by decide, by decide⟩) rfl (Nat.le_of_ble_eq_true rfl) dX12_put_6 ⟨by rw [hR]; decide, by rw [hR]; decide⟩) (fun r_3 s_2 h => ?_)
  refine k_if_ne hC (pc := 9) 14 dX12_put_9 (by decide) (fun c_4 => ?_) (fun c_4 => ?_)
  · have h := h.1 c_4
    refine k_aload_n hC (pc := 14) dX12_put_14 0 rfl ?_
    refine gf_X12_2 hC (pc := 15)  fl_RX12_9 dX12_put_15 ?_
    refine k_iload_n hC (pc := 18) dX12_put_18 1 rfl ?_
    obtain ⟨c_5, h⟩ := h
    refine r_iald hC (pc := 19) ra5_2 c_5 dX12_put_19 ?_
    refine k_bipush hC (pc := 20) (v := (-9)) dX12_put_20 bp_m9 ?_
    refine k_icmp_ne hC (pc := 22) 31 dX12_put_22 (by decide) (fun c_6 => ?_) (fun c_6 => ?_)
    · have h := h.1 c_6
      refine k_iload_n hC (pc := 31) dX12_put_31 2 rfl ?_
      refine k_iconst hC (pc := 32) (v := 0) dX12_put_32 ic_0 ?_
      refine k_aload_n hC (pc := 33) dX12_put_33 0 rfl ?_
      refine gf_X12_3 hC (pc := 34)  fl_RX12_13 dX12_put_34 ?_
      refine k_iload_n hC (pc := 37) dX12_put_37 1 rfl ?_
      obtain ⟨c_7, h⟩ := h
      refine r_iald hC (pc := 38) ra5_3 c_7 dX12_put_38 ?_
      refine k_iconst hC (pc := 39) (v := 1) dX12_put_39 ic_1 ?_
      refine k_isub hC (pc := 40) dX12_put_40 ?_
      refine k_ci (rn_S hC (pc := 41) (As := [.int x2, .int 0, .int ((s_2.1 5 3 x1.toNatClampNeg) - 1)]) (rest := []) ca_X12_within ml_RX12_186 sm_X12_within (ct_X12_within x2 0 ((s_2.1 5 3 x1.toNatClampNeg) - 1) h) (by rw [hR]; exact ⟨rfl, rfl, by decide, by decide⟩) rfl (Nat.le_of_ble_eq_true rfl) dX12_put_41 ⟨by rw [hR]; decide, by rw [hR]; decide⟩) (fun r_9 s_8 h => ?_)
      refine k_if_ne hC (pc := 44) 53 dX12_put_44 (by decide) (fun c_10 => ?_) (fun c_10 => ?_)
      · have h := h.1 c_10
        refine k_aload_n hC (pc := 53) dX12_put_53 0 rfl ?_
        refine gf_X12_4 hC (pc := 54)  fl_RX12_16 dX12_put_54 ?_
        refine k_bipush hC (pc := 57) (v := 60) dX12_put_57 bp_60 ?_
        refine k_iload_n hC (pc := 59) dX12_put_59 1 rfl ?_
        refine k_imul hC (pc := 60) dX12_put_60 ?_
        refine k_iload_n hC (pc := 61) dX12_put_61 2 rfl ?_
        refine k_iadd hC (pc := 62) dX12_put_62 ?_
        refine k_aload_n hC (pc := 63) dX12_put_63 0 rfl ?_
        refine gf_X12_2 hC (pc := 64)  fl_RX12_9 dX12_put_64 ?_
        refine k_iload_n hC (pc := 67) dX12_put_67 1 rfl ?_
        obtain ⟨c_11, h⟩ := h
        refine r_iald hC (pc := 68) ra5_2 c_11 dX12_put_68 ?_
        refine k_if_ne hC (pc := 69) 77 dX12_put_69 (by decide) (fun c_12 => ?_) (fun c_12 => ?_)
        · have h := h.1 c_12
          refine k_aload_n hC (pc := 77) dX12_put_77 0 rfl ?_
          refine gf_X12_2 hC (pc := 78)  fl_RX12_9 dX12_put_78 ?_
          refine k_iload_n hC (pc := 81) dX12_put_81 1 rfl ?_
          obtain ⟨c_13, h⟩ := h
          refine r_iald hC (pc := 82) ra5_2 c_13 dX12_put_82 ?_
          refine k_iconst hC (pc := 83) (v := 1) dX12_put_83 ic_1 ?_
          refine k_icmp_ne hC (pc := 84) 92 dX12_put_84 (by decide) (fun c_14 => ?_) (fun c_14 => ?_)
          · have h := h.1 c_14
            refine k_iload_n hC (pc := 92) dX12_put_92 3 rfl ?_
            refine k_sub [] [] rfl ?_
            exact b_X12_put_93 hC hR hQ hr _ _ _ h
          · have h := h.2 c_14
            refine k_iload_n hC (pc := 87) dX12_put_87 3 rfl ?_
            refine k_i2s hC (pc := 88) dX12_put_88 ?_
            refine k_goto hC (pc := 89) 93 dX12_put_89 (by decide) ?_
            refine k_sub [] [] rfl ?_
            exact b_X12_put_93 hC hR hQ hr _ _ _ h
        · have h := h.2 c_12
          refine k_iload_n hC (pc := 72) dX12_put_72 3 rfl ?_
          refine k_i2b hC (pc := 73) dX12_put_73 ?_
          refine k_goto hC (pc := 74) 93 dX12_put_74 (by decide) ?_
          refine k_sub [] [] rfl ?_
          exact b_X12_put_93 hC hR hQ hr _ _ _ h
      · have h := h.2 c_10
        refine k_aload_n hC (pc := 47) dX12_put_47 0 rfl ?_
        refine k_iconst hC (pc := 48) (v := 3) dX12_put_48 ic_3 ?_
        refine k_ci (rn_V hC (pc := 49) (As := [.int 3]) (rest := []) ca_X12_fails ml_RX12_249 im_X12_fails se_X12_fails (fx_in f6_0) (ob6_0 _ _ _ _ _) rfl rfl (ct_X12_fails 3 h) (by rw [hR]; exact ⟨rfl, rfl, by decide, by decide⟩) rfl (Nat.le_of_ble_eq_true rfl) dX12_put_49 ⟨by rw [hR]; decide, by rw [hR]; decide⟩) (fun r_18 s_17 h => ?_)
        exact k_iret hC (pc := 52) hQ hr dX12_put_52 h
    · have h := h.2 c_6
      refine k_aload_n hC (pc := 25) dX12_put_25 0 rfl ?_
      refine k_iconst hC (pc := 26) (v := 1) dX12_put_26 ic_1 ?_
      refine k_ci (rn_V hC (pc := 27) (As := [.int 1]) (rest := []) ca_X12_fails ml_RX12_249 im_X12_fails se_X12_fails (fx_in f6_0) (ob6_0 _ _ _ _ _) rfl rfl (ct_X12_fails 1 h) (by rw [hR]; exact ⟨rfl, rfl, by decide, by decide⟩) rfl (Nat.le_of_ble_eq_true rfl) dX12_put_27 ⟨by rw [hR]; decide, by rw [hR]; decide⟩) (fun r_20 s_19 h => ?_)
      exact k_iret hC (pc := 30) hQ hr dX12_put_30 h
  · have h := h.2 c_4
    refine k_iconst hC (pc := 12) (v := (-1)) dX12_put_12 ic_m1 ?_
    exact k_iret hC (pc := 13) hQ hr dX12_put_13 h
theorem ct_X12_put {l : Launch} {G : Gx} {a : Ax} {s : Sx} {N : Nat} {post : Int32 → Sx → Prop} (x1 : Int32) (x2 : Int32) (x3 : Int32) (h : w_X12_put N x1 x2 x3 s post) : Met l yX12_put (Cond.code yX12_put cX12_put 4 (some .int) :: gw) { frames := 2, cells := 0, slots := 0, locals := 42 } (va_Pc [.ref (adr G a 6 0), .int x1, .int x2, .int x3] (fun U => FU G a s U)) (Qi G a post) 0 0 (bs_ G) := met_of (plainFor_of_name (by decide)) (Nat.le_of_ble_eq_true rfl) rfl (fun X hC hl hR hQ hr hG hn => by subst hG; exact b_X12_put hC hR hQ hr hn s x1 x2 x3 h)
theorem ca_X12_put : Ca yX12_put cX12_put 4 (some .int) 3 := ⟨cd_X12_put, ii_RX12, by decide, by decide, by decide +kernel⟩
def w_X12_cell_50 (N : Nat) (post : Int64 → Sx → Prop) (s : Sx) (x1 : Int32) (x2 : Int32) : Prop := vp_in x1 4 ∧ (¬ (s.1 5 2 x1.toNatClampNeg) = ((-9)) → vp_in x1 4 ∧ w_X12_within N x2 0 ((s.1 5 3 x1.toNatClampNeg) - 1) s (fun r_14 s_13 => (¬ r_14 = 0 → vp_in ((60 * x1) + x2) 240 ∧ post ((s_13.1 5 4 ((60 * x1) + x2).toNatClampNeg).toInt64) s_13) ∧ (¬ (¬ r_14 = 0) → w_X12_lostBeing N 3 s_13 (fun r_18 s_17 => post r_18 s_17)))) ∧ (¬ (¬ (s.1 5 2 x1.toNatClampNeg) = ((-9))) → w_X12_lostBeing N 1 s (fun r_20 s_19 => post r_20 s_19))
def w_X12_cell (N : Nat) (x1 : Int32) (x2 : Int32) (x3 : Int32) (s : Sx) (post : Int64 → Sx → Prop) : Prop := ∀ s_1, s_1 = setI s 6 0 0 0 → w_X12_isSheet N x1 s_1 (fun r_3 s_2 => (r_3 = 0 → post ((-9223372036854775808)) s_2) ∧ (¬ (r_3 = 0) → w_X12_isLane N x3 s_2 (fun r_6 s_5 => (¬ r_6 = 0 → vp_in x1 4 ∧ ((s_5.1 5 2 x1.toNatClampNeg) = ((-9)) → w_X12_cell_50 N post s_5 x1 x2) ∧ (¬ ((s_5.1 5 2 x1.toNatClampNeg) = ((-9))) → vp_in x1 4 ∧ ((s_5.1 5 2 x1.toNatClampNeg) = x3 → w_X12_cell_50 N post s_5 x1 x2) ∧ (¬ ((s_5.1 5 2 x1.toNatClampNeg) = x3) → w_X12_lostBeing N 2 s_5 (fun r_24 s_23 => post r_24 s_23)))) ∧ (¬ (¬ r_6 = 0) → post ((-9223372036854775808)) s_5))))
set_option maxHeartbeats 4000000 in
theorem b_X12_cell_50 {X : Kx} {a : Ax} {N : Nat} {post : Int64 → Sx → Prop}  (hC : Cx X cX12_cell 4 RX12) (hR : X.R = { frames := 2, cells := 0, slots := 0, locals := 42 }) (hQ : X.Q = MQ X.below (Ql X.G a post) X.av X.s 0 0 (bs_ X.G)) (hr : X.meth.sig.returnType = (some .long))   (s : Sx) (x1 : Int32) (x2 : Int32) (h : w_X12_cell_50 N post  s x1 x2) : wk X a s 4 50 [(0, .ref (adr X.G a 6 0)), (1, .int x1), (2, .int x2)] [] 0 0 := by
  unfold w_X12_cell_50 at h
  refine k_aload_n hC (pc := 50) dX12_cell_50 0 rfl ?_
  refine gf_X12_2 hC (pc := 51)  fl_RX12_9 dX12_cell_51 ?_
  refine k_iload_n hC (pc := 54) dX12_cell_54 1 rfl ?_
  obtain ⟨c_10, h⟩ := h
  refine r_iald hC (pc := 55) ra5_2 c_10 dX12_cell_55 ?_
  refine k_bipush hC (pc := 56) (v := (-9)) dX12_cell_56 bp_m9 ?_
  refine k_icmp_ne hC (pc := 58) 67 dX12_cell_58 (by decide) (fun c_11 => ?_) (fun c_11 => ?_)
  · have h := h.1 c_11
    refine k_iload_n hC (pc := 67) dX12_cell_67 2 rfl ?_
    refine k_iconst hC (pc := 68) (v := 0) dX12_cell_68 ic_0 ?_
    refine k_aload_n hC (pc := 69) dX12_cell_69 0 rfl ?_
    refine gf_X12_3 hC (pc := 70)  fl_RX12_13 dX12_cell_70 ?_
    refine k_iload_n hC (pc := 73) dX12_cell_73 1 rfl ?_
    obtain ⟨c_12, h⟩ := h
    refine r_iald hC (pc := 74) ra5_3 c_12 dX12_cell_74 ?_
    refine k_iconst hC (pc := 75) (v := 1) dX12_cell_75 ic_1 ?_
    refine k_isub hC (pc := 76) dX12_cell_76 ?_
    refine k_ci (rn_S hC (pc := 77) (As := [.int x2, .int 0, .int ((s.1 5 3 x1.toNatClampNeg) - 1)]) (rest := []) ca_X12_within ml_RX12_186 sm_X12_within (ct_X12_within x2 0 ((s.1 5 3 x1.toNatClampNeg) - 1) h) (by rw [hR]; exact ⟨rfl, rfl, by decide, by decide⟩) rfl (Nat.le_of_ble_eq_true rfl) dX12_cell_77 ⟨by rw [hR]; decide, by rw [hR]; decide⟩) (fun r_14 s_13 h => ?_)
    refine k_if_ne hC (pc := 80) 89 dX12_cell_80 (by decide) (fun c_15 => ?_) (fun c_15 => ?_)
    · have h := h.1 c_15
      refine k_aload_n hC (pc := 89) dX12_cell_89 0 rfl ?_
      refine gf_X12_4 hC (pc := 90)  fl_RX12_16 dX12_cell_90 ?_
      refine k_bipush hC (pc := 93) (v := 60) dX12_cell_93 bp_60 ?_
      refine k_iload_n hC (pc := 95) dX12_cell_95 1 rfl ?_
      refine k_imul hC (pc := 96) dX12_cell_96 ?_
      refine k_iload_n hC (pc := 97) dX12_cell_97 2 rfl ?_
      refine k_iadd hC (pc := 98) dX12_cell_98 ?_
      obtain ⟨c_16, h⟩ := h
      refine r_iald hC (pc := 99) ra5_4 c_16 dX12_cell_99 ?_
      refine k_i2l hC (pc := 100) dX12_cell_100 ?_
      exact k_lret hC (pc := 101) hQ hr dX12_cell_101 h
    · have h := h.2 c_15
      refine k_aload_n hC (pc := 83) dX12_cell_83 0 rfl ?_
      refine k_iconst hC (pc := 84) (v := 3) dX12_cell_84 ic_3 ?_
      refine k_cl (rn_V hC (pc := 85) (As := [.int 3]) (rest := []) ca_X12_lostBeing ml_RX12_334 im_X12_lostBeing se_X12_lostBeing (fx_in f6_0) (ob6_0 _ _ _ _ _) rfl rfl (ct_X12_lostBeing 3 h) (by rw [hR]; exact ⟨rfl, rfl, by decide, by decide⟩) rfl (Nat.le_of_ble_eq_true rfl) dX12_cell_85 ⟨by rw [hR]; decide, by rw [hR]; decide⟩) (fun r_18 s_17 h => ?_)
      exact k_lret hC (pc := 88) hQ hr dX12_cell_88 h
  · have h := h.2 c_11
    refine k_aload_n hC (pc := 61) dX12_cell_61 0 rfl ?_
    refine k_iconst hC (pc := 62) (v := 1) dX12_cell_62 ic_1 ?_
    refine k_cl (rn_V hC (pc := 63) (As := [.int 1]) (rest := []) ca_X12_lostBeing ml_RX12_334 im_X12_lostBeing se_X12_lostBeing (fx_in f6_0) (ob6_0 _ _ _ _ _) rfl rfl (ct_X12_lostBeing 1 h) (by rw [hR]; exact ⟨rfl, rfl, by decide, by decide⟩) rfl (Nat.le_of_ble_eq_true rfl) dX12_cell_63 ⟨by rw [hR]; decide, by rw [hR]; decide⟩) (fun r_20 s_19 h => ?_)
    exact k_lret hC (pc := 66) hQ hr dX12_cell_66 h
set_option maxHeartbeats 4000000 in
theorem b_X12_cell {X : Kx} {a : Ax} {N : Nat} {post : Int64 → Sx → Prop} (hC : Cx X cX12_cell 4 RX12) (hR : X.R = { frames := 2, cells := 0, slots := 0, locals := 42 }) (hQ : X.Q = MQ X.below (Ql X.G a post) X.av X.s 0 0 (bs_ X.G)) (hr : X.meth.sig.returnType = (some .long)) (hn : X.meth.name = "cell") (s : Sx) (x1 : Int32) (x2 : Int32) (x3 : Int32) (h : w_X12_cell N x1 x2 x3 s post) : wk X a s 4 0 [(0, .ref (adr X.G a 6 0)), (1, .int x1), (2, .int x2), (3, .int x3)] [] 0 0 := by
  unfold w_X12_cell at h
  refine k_aload_n hC (pc := 0) dX12_cell_0 0 rfl ?_
  refine k_iconst hC (pc := 1) (v := 0) dX12_cell_1 ic_0 ?_
  refine pf_X12_0 hC (pc := 2)  fl_RX12_181 dX12_cell_2 (fun s_1 h_s_1 => ?_)
  have h := h s_1 h_s_1
  refine k_iload_n hC (pc := 5) dX12_cell_5 1 rfl ?_
  refine k_ci (rn_S hC (pc := 6) (As := [.int x1]) (rest := []) ca_X12_isSheet ml_RX12_239 sm_X12_isSheet (ct_X12_isSheet x1 h) (by rw [hR]; exact ⟨rfl, rfl, by decide, by decide⟩) rfl (Nat.le_of_ble_eq_true rfl) dX12_cell_6 ⟨by rw [hR]; decide, by rw [hR]; decide⟩) (fun r_3 s_2 h => ?_)
  refine k_if_eq hC (pc := 9) 19 dX12_cell_9 (by decide) (fun c_4 => ?_) (fun c_4 => ?_)
  · have h := h.1 c_4
    refine k_ldc2 hC (pc := 19) dX12_cell_19 cn_RX12_184 ?_
    exact k_lret hC (pc := 22) hQ hr dX12_cell_22 h
  · have h := h.2 c_4
    refine k_iload_n hC (pc := 12) dX12_cell_12 3 rfl ?_
    refine k_ci (rn_S hC (pc := 13) (As := [.int x3]) (rest := []) ca_X12_isLane ml_RX12_242 sm_X12_isLane (ct_X12_isLane x3 h) (by rw [hR]; exact ⟨rfl, rfl, by decide, by decide⟩) rfl (Nat.le_of_ble_eq_true rfl) dX12_cell_13 ⟨by rw [hR]; decide, by rw [hR]; decide⟩) (fun r_6 s_5 h => ?_)
    refine k_if_ne hC (pc := 16) 23 dX12_cell_16 (by decide) (fun c_7 => ?_) (fun c_7 => ?_)
    · have h := h.1 c_7
      refine k_aload_n hC (pc := 23) dX12_cell_23 0 rfl ?_
      refine gf_X12_2 hC (pc := 24)  fl_RX12_9 dX12_cell_24 ?_
      refine k_iload_n hC (pc := 27) dX12_cell_27 1 rfl ?_
      obtain ⟨c_8, h⟩ := h
      refine r_iald hC (pc := 28) ra5_2 c_8 dX12_cell_28 ?_
      refine k_bipush hC (pc := 29) (v := (-9)) dX12_cell_29 bp_m9 ?_
      refine k_icmp_eq hC (pc := 31) 50 dX12_cell_31 (by decide) (fun c_9 => ?_) (fun c_9 => ?_)
      · have h := h.1 c_9
        refine k_sub [(0, .ref (adr X.G a 6 0)), (1, .int x1), (2, .int x2)] [0, 1, 2] rfl ?_
        exact b_X12_cell_50 hC hR hQ hr _ _ _ h
      · have h := h.2 c_9
        refine k_aload_n hC (pc := 34) dX12_cell_34 0 rfl ?_
        refine gf_X12_2 hC (pc := 35)  fl_RX12_9 dX12_cell_35 ?_
        refine k_iload_n hC (pc := 38) dX12_cell_38 1 rfl ?_
        obtain ⟨c_21, h⟩ := h
        refine r_iald hC (pc := 39) ra5_2 c_21 dX12_cell_39 ?_
        refine k_iload_n hC (pc := 40) dX12_cell_40 3 rfl ?_
        refine k_icmp_eq hC (pc := 41) 50 dX12_cell_41 (by decide) (fun c_22 => ?_) (fun c_22 => ?_)
        · have h := h.1 c_22
          refine k_sub [(0, .ref (adr X.G a 6 0)), (1, .int x1), (2, .int x2)] [0, 1, 2] rfl ?_
          exact b_X12_cell_50 hC hR hQ hr _ _ _ h
        · have h := h.2 c_22
          refine k_aload_n hC (pc := 44) dX12_cell_44 0 rfl ?_
          refine k_iconst hC (pc := 45) (v := 2) dX12_cell_45 ic_2 ?_
          refine k_cl (rn_V hC (pc := 46) (As := [.int 2]) (rest := []) ca_X12_lostBeing ml_RX12_334 im_X12_lostBeing se_X12_lostBeing (fx_in f6_0) (ob6_0 _ _ _ _ _) rfl rfl (ct_X12_lostBeing 2 h) (by rw [hR]; exact ⟨rfl, rfl, by decide, by decide⟩) rfl (Nat.le_of_ble_eq_true rfl) dX12_cell_46 ⟨by rw [hR]; decide, by rw [hR]; decide⟩) (fun r_24 s_23 h => ?_)
          exact k_lret hC (pc := 49) hQ hr dX12_cell_49 h
    · have h := h.2 c_7
      refine k_ldc2 hC (pc := 19) dX12_cell_19 cn_RX12_184 ?_
      exact k_lret hC (pc := 22) hQ hr dX12_cell_22 h
theorem ct_X12_cell {l : Launch} {G : Gx} {a : Ax} {s : Sx} {N : Nat} {post : Int64 → Sx → Prop} (x1 : Int32) (x2 : Int32) (x3 : Int32) (h : w_X12_cell N x1 x2 x3 s post) : Met l yX12_cell (Cond.code yX12_cell cX12_cell 4 (some .long) :: gw) { frames := 2, cells := 0, slots := 0, locals := 42 } (va_Pc [.ref (adr G a 6 0), .int x1, .int x2, .int x3] (fun U => FU G a s U)) (Ql G a post) 0 0 (bs_ G) := met_of (plainFor_of_name (by decide)) (Nat.le_of_ble_eq_true rfl) rfl (fun X hC hl hR hQ hr hG hn => by subst hG; exact b_X12_cell hC hR hQ hr hn s x1 x2 x3 h)
theorem ca_X12_cell : Ca yX12_cell cX12_cell 4 (some .long) 3 := ⟨cd_X12_cell, ii_RX12, by decide, by decide, by decide +kernel⟩
def w_X12_begins (N : Nat) (x1 : Int32) (s : Sx) (post : Sx → Prop) : Prop := ∀ s_1, s_1 = setI s 6 0 1 ((31 * (s.1 6 0 1)) + x1) → post s_1
set_option maxHeartbeats 4000000 in
theorem b_X12_begins {X : Kx} {a : Ax} {N : Nat} {post : Sx → Prop} (hC : Cx X cX12_begins 2 RX12) (hR : X.R = { frames := 0, cells := 0, slots := 0, locals := 0 }) (hQ : X.Q = MQ X.below (Qv X.G a post) X.av X.s 0 0 (bs_ X.G)) (hr : X.meth.sig.returnType = none) (hn : X.meth.name = "begins") (s : Sx) (x1 : Int32) (h : w_X12_begins N x1 s post) : wk X a s 2 0 [(0, .ref (adr X.G a 6 0)), (1, .int x1)] [] 0 0 := by
  unfold w_X12_begins at h
  refine k_aload_n hC (pc := 0) dX12_begins_0 0 rfl ?_
  refine k_bipush hC (pc := 1) (v := 31) dX12_begins_1 bp_31 ?_
  refine k_aload_n hC (pc := 3) dX12_begins_3 0 rfl ?_
  refine gf_X12_1 hC (pc := 4)  fl_RX12_338 dX12_begins_4 ?_
  refine k_imul hC (pc := 7) dX12_begins_7 ?_
  refine k_iload_n hC (pc := 8) dX12_begins_8 1 rfl ?_
  refine k_iadd hC (pc := 9) dX12_begins_9 ?_
  refine pf_X12_1 hC (pc := 10)  fl_RX12_338 dX12_begins_10 (fun s_1 h_s_1 => ?_)
  have h := h s_1 h_s_1
  exact k_vret hC (pc := 13) hQ hr dX12_begins_13 h
theorem ct_X12_begins {l : Launch} {G : Gx} {a : Ax} {s : Sx} {N : Nat} {post : Sx → Prop} (x1 : Int32) (h : w_X12_begins N x1 s post) : Met l yX12_begins (Cond.code yX12_begins cX12_begins 2 none :: gw) { frames := 0, cells := 0, slots := 0, locals := 0 } (va_Pc [.ref (adr G a 6 0), .int x1] (fun U => FU G a s U)) (Qv G a post) 0 0 (bs_ G) := met_of (plainFor_of_name (by decide)) (Nat.le_of_ble_eq_true rfl) rfl (fun X hC hl hR hQ hr hG hn => by subst hG; exact b_X12_begins hC hR hQ hr hn s x1 h)
theorem ca_X12_begins : Ca yX12_begins cX12_begins 2 none 1 := ⟨cd_X12_begins, ii_RX12, by decide, by decide, by decide +kernel⟩
def w_X12_tell (N : Nat) (x1 : Int32) (s : Sx) (post : Int32 → Sx → Prop) : Prop := w_X12_isPost N x1 s (fun r_2 s_1 => (¬ r_2 = 0 → vp_in x1 30 ∧ vp_in x1 30 ∧ ∀ x_6 : Int32, x_6 = ((s_1.1 5 15 x1.toNatClampNeg) - (s_1.1 5 14 x1.toNatClampNeg)) + 1 → vp_in x1 30 ∧ ∀ x_8 : Int32, x_8 = s_1.1 5 11 x1.toNatClampNeg → (x_8 = 1 → w_X12_begins N 2 s_1 (fun s_9 => w_X12_begins N 1 s_9 (fun s_10 => post (x_6 + 8) s_10))) ∧ (¬ (x_8 = 1) → (x_8 = 2 → w_X12_begins N 3 s_1 (fun s_12 => w_X12_begins N 2 s_12 (fun s_13 => w_X12_begins N 1 s_13 (fun s_14 => w_X12_begins N 1 s_14 (fun s_15 => post ((2 * x_6) + 8) s_15))))) ∧ (¬ (x_8 = 2) → w_X12_begins N 1 s_1 (fun s_17 => post x_6 s_17)))) ∧ (¬ (¬ r_2 = 0) → post ((-1)) s_1))
set_option maxHeartbeats 4000000 in
theorem b_X12_tell {X : Kx} {a : Ax} {N : Nat} {post : Int32 → Sx → Prop} (hC : Cx X cX12_tell 3 RX12) (hR : X.R = { frames := 1, cells := 0, slots := 0, locals := 21 }) (hQ : X.Q = MQ X.below (Qi X.G a post) X.av X.s 0 0 (bs_ X.G)) (hr : X.meth.sig.returnType = (some .int)) (hn : X.meth.name = "tell") (s : Sx) (x1 : Int32) (h : w_X12_tell N x1 s post) : wk X a s 3 0 [(0, .ref (adr X.G a 6 0)), (1, .int x1)] [] 0 0 := by
  unfold w_X12_tell at h
  refine k_aload_n hC (pc := 0) dX12_tell_0 0 rfl ?_
  refine k_iload_n hC (pc := 1) dX12_tell_1 1 rfl ?_
  refine k_ci (rn_V hC (pc := 2) (As := [.int x1]) (rest := []) ca_X12_isPost ml_RX12_341 im_X12_isPost se_X12_isPost (fx_in f6_0) (ob6_0 _ _ _ _ _) rfl rfl (ct_X12_isPost x1 h) (by rw [hR]; exact ⟨rfl, rfl, by decide, by decide⟩) rfl (Nat.le_of_ble_eq_true rfl) dX12_tell_2 ⟨by rw [hR]; decide, by rw [hR]; decide⟩) (fun r_2 s_1 h => ?_)
  refine k_if_ne hC (pc := 5) 10 dX12_tell_5 (by decide) (fun c_3 => ?_) (fun c_3 => ?_)
  · have h := h.1 c_3
    refine k_aload_n hC (pc := 10) dX12_tell_10 0 rfl ?_
    refine gf_X12_15 hC (pc := 11)  fl_RX12_40 dX12_tell_11 ?_
    refine k_iload_n hC (pc := 14) dX12_tell_14 1 rfl ?_
    obtain ⟨c_4, h⟩ := h
    refine r_iald hC (pc := 15) ra5_15 c_4 dX12_tell_15 ?_
    refine k_aload_n hC (pc := 16) dX12_tell_16 0 rfl ?_
    refine gf_X12_14 hC (pc := 17)  fl_RX12_37 dX12_tell_17 ?_
    refine k_iload_n hC (pc := 20) dX12_tell_20 1 rfl ?_
    obtain ⟨c_5, h⟩ := h
    refine r_iald hC (pc := 21) ra5_14 c_5 dX12_tell_21 ?_
    refine k_isub hC (pc := 22) dX12_tell_22 ?_
    refine k_iconst hC (pc := 23) (v := 1) dX12_tell_23 ic_1 ?_
    refine k_iadd hC (pc := 24) dX12_tell_24 ?_
    refine k_topi (fun x_6 h_x_6 => ?_)
    have h := h x_6 h_x_6
    refine k_istore_n hC (pc := 25) dX12_tell_25 [(2, .int x_6), (0, .ref (adr X.G a 6 0)), (1, .int x1)] (by decide) rfl ?_
    refine k_aload_n hC (pc := 26) dX12_tell_26 1 rfl ?_
    refine gf_X12_11 hC (pc := 27)  fl_RX12_28 dX12_tell_27 ?_
    refine k_iload_n hC (pc := 30) dX12_tell_30 2 rfl ?_
    obtain ⟨c_7, h⟩ := h
    refine r_iald hC (pc := 31) ra5_11 c_7 dX12_tell_31 ?_
    refine k_topi (fun x_8 h_x_8 => ?_)
    have h := h x_8 h_x_8
    by_cases c_11 : x_8 = 1
    · have h := h.1 c_11
      refine k_ls hC (pc := 32) (x := x_8) 60 dX12_tell_32 (by decide) (by rw [c_11]) (by decide) ?_
      refine k_aload_n hC (pc := 60) dX12_tell_60 1 rfl ?_
      refine k_iconst hC (pc := 61) (v := 2) dX12_tell_61 ic_2 ?_
      refine k_cv (rn_V hC (pc := 62) (As := [.int 2]) (rest := []) ca_X12_begins ml_RX12_344 im_X12_begins se_X12_begins (fx_in f6_0) (ob6_0 _ _ _ _ _) rfl rfl (ct_X12_begins 2 h) (by rw [hR]; exact ⟨rfl, rfl, by decide, by decide⟩) rfl (Nat.le_of_ble_eq_true rfl) dX12_tell_62 ⟨by rw [hR]; decide, by rw [hR]; decide⟩) (fun s_9 h => ?_)
      refine k_aload_n hC (pc := 65) dX12_tell_65 1 rfl ?_
      refine k_iconst hC (pc := 66) (v := 1) dX12_tell_66 ic_1 ?_
      refine k_cv (rn_V hC (pc := 67) (As := [.int 1]) (rest := []) ca_X12_begins ml_RX12_344 im_X12_begins se_X12_begins (fx_in f6_0) (ob6_0 _ _ _ _ _) rfl rfl (ct_X12_begins 1 h) (by rw [hR]; exact ⟨rfl, rfl, by decide, by decide⟩) rfl (Nat.le_of_ble_eq_true rfl) dX12_tell_67 ⟨by rw [hR]; decide, by rw [hR]; decide⟩) (fun s_10 h => ?_)
      refine k_iload_n hC (pc := 70) dX12_tell_70 0 rfl ?_
      refine k_bipush hC (pc := 71) (v := 8) dX12_tell_71 bp_8 ?_
      refine k_iadd hC (pc := 73) dX12_tell_73 ?_
      exact k_iret hC (pc := 74) hQ hr dX12_tell_74 h
    · have h := h.2 c_11
      by_cases c_16 : x_8 = 2
      · have h := h.1 c_16
        refine k_ls hC (pc := 32) (x := x_8) 75 dX12_tell_32 (by decide) (by rw [c_16]) (by decide) ?_
        refine k_aload_n hC (pc := 75) dX12_tell_75 1 rfl ?_
        refine k_iconst hC (pc := 76) (v := 3) dX12_tell_76 ic_3 ?_
        refine k_cv (rn_V hC (pc := 77) (As := [.int 3]) (rest := []) ca_X12_begins ml_RX12_344 im_X12_begins se_X12_begins (fx_in f6_0) (ob6_0 _ _ _ _ _) rfl rfl (ct_X12_begins 3 h) (by rw [hR]; exact ⟨rfl, rfl, by decide, by decide⟩) rfl (Nat.le_of_ble_eq_true rfl) dX12_tell_77 ⟨by rw [hR]; decide, by rw [hR]; decide⟩) (fun s_12 h => ?_)
        refine k_aload_n hC (pc := 80) dX12_tell_80 1 rfl ?_
        refine k_iconst hC (pc := 81) (v := 2) dX12_tell_81 ic_2 ?_
        refine k_cv (rn_V hC (pc := 82) (As := [.int 2]) (rest := []) ca_X12_begins ml_RX12_344 im_X12_begins se_X12_begins (fx_in f6_0) (ob6_0 _ _ _ _ _) rfl rfl (ct_X12_begins 2 h) (by rw [hR]; exact ⟨rfl, rfl, by decide, by decide⟩) rfl (Nat.le_of_ble_eq_true rfl) dX12_tell_82 ⟨by rw [hR]; decide, by rw [hR]; decide⟩) (fun s_13 h => ?_)
        refine k_aload_n hC (pc := 85) dX12_tell_85 1 rfl ?_
        refine k_iconst hC (pc := 86) (v := 1) dX12_tell_86 ic_1 ?_
        refine k_cv (rn_V hC (pc := 87) (As := [.int 1]) (rest := []) ca_X12_begins ml_RX12_344 im_X12_begins se_X12_begins (fx_in f6_0) (ob6_0 _ _ _ _ _) rfl rfl (ct_X12_begins 1 h) (by rw [hR]; exact ⟨rfl, rfl, by decide, by decide⟩) rfl (Nat.le_of_ble_eq_true rfl) dX12_tell_87 ⟨by rw [hR]; decide, by rw [hR]; decide⟩) (fun s_14 h => ?_)
        refine k_aload_n hC (pc := 90) dX12_tell_90 1 rfl ?_
        refine k_iconst hC (pc := 91) (v := 1) dX12_tell_91 ic_1 ?_
        refine k_cv (rn_V hC (pc := 92) (As := [.int 1]) (rest := []) ca_X12_begins ml_RX12_344 im_X12_begins se_X12_begins (fx_in f6_0) (ob6_0 _ _ _ _ _) rfl rfl (ct_X12_begins 1 h) (by rw [hR]; exact ⟨rfl, rfl, by decide, by decide⟩) rfl (Nat.le_of_ble_eq_true rfl) dX12_tell_92 ⟨by rw [hR]; decide, by rw [hR]; decide⟩) (fun s_15 h => ?_)
        refine k_iconst hC (pc := 95) (v := 2) dX12_tell_95 ic_2 ?_
        refine k_iload_n hC (pc := 96) dX12_tell_96 0 rfl ?_
        refine k_imul hC (pc := 97) dX12_tell_97 ?_
        refine k_bipush hC (pc := 98) (v := 8) dX12_tell_98 bp_8 ?_
        refine k_iadd hC (pc := 100) dX12_tell_100 ?_
        exact k_iret hC (pc := 101) hQ hr dX12_tell_101 h
      · have h := h.2 c_16
        refine k_ls hC (pc := 32) (x := x_8) 102 dX12_tell_32 (by decide) (ls_outG c_11 c_16) (by decide) ?_
        refine k_aload_n hC (pc := 102) dX12_tell_102 1 rfl ?_
        refine k_iconst hC (pc := 103) (v := 1) dX12_tell_103 ic_1 ?_
        refine k_cv (rn_V hC (pc := 104) (As := [.int 1]) (rest := []) ca_X12_begins ml_RX12_344 im_X12_begins se_X12_begins (fx_in f6_0) (ob6_0 _ _ _ _ _) rfl rfl (ct_X12_begins 1 h) (by rw [hR]; exact ⟨rfl, rfl, by decide, by decide⟩) rfl (Nat.le_of_ble_eq_true rfl) dX12_tell_104 ⟨by rw [hR]; decide, by rw [hR]; decide⟩) (fun s_17 h => ?_)
        refine k_iload_n hC (pc := 107) dX12_tell_107 0 rfl ?_
        exact k_iret hC (pc := 108) hQ hr dX12_tell_108 h
  · have h := h.2 c_3
    refine k_iconst hC (pc := 8) (v := (-1)) dX12_tell_8 ic_m1 ?_
    exact k_iret hC (pc := 9) hQ hr dX12_tell_9 h
theorem ct_X12_tell {l : Launch} {G : Gx} {a : Ax} {s : Sx} {N : Nat} {post : Int32 → Sx → Prop} (x1 : Int32) (h : w_X12_tell N x1 s post) : Met l yX12_tell (Cond.code yX12_tell cX12_tell 3 (some .int) :: gw) { frames := 1, cells := 0, slots := 0, locals := 21 } (va_Pc [.ref (adr G a 6 0), .int x1] (fun U => FU G a s U)) (Qi G a post) 0 0 (bs_ G) := met_of (plainFor_of_name (by decide)) (Nat.le_of_ble_eq_true rfl) rfl (fun X hC hl hR hQ hr hG hn => by subst hG; exact b_X12_tell hC hR hQ hr hn s x1 h)
theorem ca_X12_tell : Ca yX12_tell cX12_tell 3 (some .int) 1 := ⟨cd_X12_tell, ii_RX12, by decide, by decide, by decide +kernel⟩
def w_X12_roll_26 (N : Nat) (post : Int32 → Sx → Prop) (s : Sx) (x1 : Int32) (z1 : Int32) : Prop := w_X12_begins N z1 s (fun s_6 => vp_in x1 30 ∧ (¬ (s_6.1 5 11 x1.toNatClampNeg) = 2 → post x1 s_6) ∧ (¬ (¬ (s_6.1 5 11 x1.toNatClampNeg) = 2) → post 66 s_6))
def w_X12_roll (N : Nat) (x1 : Int32) (s : Sx) (post : Int32 → Sx → Prop) : Prop := w_X12_isPost N x1 s (fun r_2 s_1 => (¬ r_2 = 0 → vp_in x1 30 ∧ (¬ (s_1.1 5 11 x1.toNatClampNeg) = 2 → w_X12_roll_26 N post s_1 x1 4) ∧ (¬ (¬ (s_1.1 5 11 x1.toNatClampNeg) = 2) → w_X12_roll_26 N post s_1 x1 5)) ∧ (¬ (¬ r_2 = 0) → post ((-1)) s_1))
set_option maxHeartbeats 4000000 in
theorem b_X12_roll_26 {X : Kx} {a : Ax} {N : Nat} {post : Int32 → Sx → Prop}  (hC : Cx X cX12_roll 2 RX12) (hR : X.R = { frames := 1, cells := 0, slots := 0, locals := 21 }) (hQ : X.Q = MQ X.below (Qi X.G a post) X.av X.s 0 0 (bs_ X.G)) (hr : X.meth.sig.returnType = (some .int))   (s : Sx) (x1 : Int32) (z1 : Int32) (h : w_X12_roll_26 N post  s x1 z1) : wk X a s 2 26 [(0, .ref (adr X.G a 6 0)), (1, .int x1)] [.int z1, .ref (adr X.G a 6 0)] 0 0 := by
  unfold w_X12_roll_26 at h
  refine k_cv (rn_V hC (pc := 26) (As := [.int z1]) (rest := []) ca_X12_begins ml_RX12_344 im_X12_begins se_X12_begins (fx_in f6_0) (ob6_0 _ _ _ _ _) rfl rfl (ct_X12_begins z1 h) (by rw [hR]; exact ⟨rfl, rfl, by decide, by decide⟩) rfl (Nat.le_of_ble_eq_true rfl) dX12_roll_26 ⟨by rw [hR]; decide, by rw [hR]; decide⟩) (fun s_6 h => ?_)
  refine k_aload_n hC (pc := 29) dX12_roll_29 0 rfl ?_
  refine gf_X12_11 hC (pc := 30)  fl_RX12_28 dX12_roll_30 ?_
  refine k_iload_n hC (pc := 33) dX12_roll_33 1 rfl ?_
  obtain ⟨c_7, h⟩ := h
  refine r_iald hC (pc := 34) ra5_11 c_7 dX12_roll_34 ?_
  refine k_iconst hC (pc := 35) (v := 2) dX12_roll_35 ic_2 ?_
  refine k_icmp_ne hC (pc := 36) 44 dX12_roll_36 (by decide) (fun c_8 => ?_) (fun c_8 => ?_)
  · have h := h.1 c_8
    refine k_iload_n hC (pc := 44) dX12_roll_44 1 rfl ?_
    exact k_iret hC (pc := 45) hQ hr dX12_roll_45 h
  · have h := h.2 c_8
    refine k_bipush hC (pc := 39) (v := 66) dX12_roll_39 bp_66 ?_
    refine k_goto hC (pc := 41) 45 dX12_roll_41 (by decide) ?_
    exact k_iret hC (pc := 45) hQ hr dX12_roll_45 h
set_option maxHeartbeats 4000000 in
theorem b_X12_roll {X : Kx} {a : Ax} {N : Nat} {post : Int32 → Sx → Prop} (hC : Cx X cX12_roll 2 RX12) (hR : X.R = { frames := 1, cells := 0, slots := 0, locals := 21 }) (hQ : X.Q = MQ X.below (Qi X.G a post) X.av X.s 0 0 (bs_ X.G)) (hr : X.meth.sig.returnType = (some .int)) (hn : X.meth.name = "roll") (s : Sx) (x1 : Int32) (h : w_X12_roll N x1 s post) : wk X a s 2 0 [(0, .ref (adr X.G a 6 0)), (1, .int x1)] [] 0 0 := by
  unfold w_X12_roll at h
  refine k_aload_n hC (pc := 0) dX12_roll_0 0 rfl ?_
  refine k_iload_n hC (pc := 1) dX12_roll_1 1 rfl ?_
  refine k_ci (rn_V hC (pc := 2) (As := [.int x1]) (rest := []) ca_X12_isPost ml_RX12_341 im_X12_isPost se_X12_isPost (fx_in f6_0) (ob6_0 _ _ _ _ _) rfl rfl (ct_X12_isPost x1 h) (by rw [hR]; exact ⟨rfl, rfl, by decide, by decide⟩) rfl (Nat.le_of_ble_eq_true rfl) dX12_roll_2 ⟨by rw [hR]; decide, by rw [hR]; decide⟩) (fun r_2 s_1 h => ?_)
  refine k_if_ne hC (pc := 5) 10 dX12_roll_5 (by decide) (fun c_3 => ?_) (fun c_3 => ?_)
  · have h := h.1 c_3
    refine k_aload_n hC (pc := 10) dX12_roll_10 0 rfl ?_
    refine k_aload_n hC (pc := 11) dX12_roll_11 0 rfl ?_
    refine gf_X12_11 hC (pc := 12)  fl_RX12_28 dX12_roll_12 ?_
    refine k_iload_n hC (pc := 15) dX12_roll_15 1 rfl ?_
    obtain ⟨c_4, h⟩ := h
    refine r_iald hC (pc := 16) ra5_11 c_4 dX12_roll_16 ?_
    refine k_iconst hC (pc := 17) (v := 2) dX12_roll_17 ic_2 ?_
    refine k_icmp_ne hC (pc := 18) 25 dX12_roll_18 (by decide) (fun c_5 => ?_) (fun c_5 => ?_)
    · have h := h.1 c_5
      refine k_iconst hC (pc := 25) (v := 4) dX12_roll_25 ic_4 ?_
      exact b_X12_roll_26 hC hR hQ hr _ _ _ h
    · have h := h.2 c_5
      refine k_iconst hC (pc := 21) (v := 5) dX12_roll_21 ic_5 ?_
      refine k_goto hC (pc := 22) 26 dX12_roll_22 (by decide) ?_
      exact b_X12_roll_26 hC hR hQ hr _ _ _ h
  · have h := h.2 c_3
    refine k_iconst hC (pc := 8) (v := (-1)) dX12_roll_8 ic_m1 ?_
    exact k_iret hC (pc := 9) hQ hr dX12_roll_9 h
theorem ct_X12_roll {l : Launch} {G : Gx} {a : Ax} {s : Sx} {N : Nat} {post : Int32 → Sx → Prop} (x1 : Int32) (h : w_X12_roll N x1 s post) : Met l yX12_roll (Cond.code yX12_roll cX12_roll 2 (some .int) :: gw) { frames := 1, cells := 0, slots := 0, locals := 21 } (va_Pc [.ref (adr G a 6 0), .int x1] (fun U => FU G a s U)) (Qi G a post) 0 0 (bs_ G) := met_of (plainFor_of_name (by decide)) (Nat.le_of_ble_eq_true rfl) rfl (fun X hC hl hR hQ hr hG hn => by subst hG; exact b_X12_roll hC hR hQ hr hn s x1 h)
theorem ca_X12_roll : Ca yX12_roll cX12_roll 2 (some .int) 1 := ⟨cd_X12_roll, ii_RX12, by decide, by decide, by decide +kernel⟩
def w_X12_as (N : Nat) (x1 : Int32) (x2 : Int32) (s : Sx) (post : Int32 → Sx → Prop) : Prop := ∀ s_1, s_1 = setI s 6 0 0 0 → w_X12_isPost N x1 s_1 (fun r_3 s_2 => (¬ r_3 = 0 → w_X12_within N x2 0 2 s_2 (fun r_6 s_5 => (¬ r_6 = 0 → vp_in x1 30 ∧ ((s_5.1 5 11 x1.toNatClampNeg) < x2 → w_X12_fails N 2 s_5 (fun r_11 s_10 => post r_11 s_10)) ∧ (¬ ((s_5.1 5 11 x1.toNatClampNeg) < x2) → post 1 s_5)) ∧ (¬ (¬ r_6 = 0) → post ((-2)) s_5))) ∧ (¬ (¬ r_3 = 0) → post ((-1)) s_2))
set_option maxHeartbeats 4000000 in
theorem b_X12_as {X : Kx} {a : Ax} {N : Nat} {post : Int32 → Sx → Prop} (hC : Cx X cX12_as 3 RX12) (hR : X.R = { frames := 1, cells := 0, slots := 0, locals := 22 }) (hQ : X.Q = MQ X.below (Qi X.G a post) X.av X.s 0 0 (bs_ X.G)) (hr : X.meth.sig.returnType = (some .int)) (hn : X.meth.name = "as") (s : Sx) (x1 : Int32) (x2 : Int32) (h : w_X12_as N x1 x2 s post) : wk X a s 3 0 [(0, .ref (adr X.G a 6 0)), (1, .int x1), (2, .int x2)] [] 0 0 := by
  unfold w_X12_as at h
  refine k_aload_n hC (pc := 0) dX12_as_0 0 rfl ?_
  refine k_iconst hC (pc := 1) (v := 0) dX12_as_1 ic_0 ?_
  refine pf_X12_0 hC (pc := 2)  fl_RX12_181 dX12_as_2 (fun s_1 h_s_1 => ?_)
  have h := h s_1 h_s_1
  refine k_aload_n hC (pc := 5) dX12_as_5 0 rfl ?_
  refine k_iload_n hC (pc := 6) dX12_as_6 1 rfl ?_
  refine k_ci (rn_V hC (pc := 7) (As := [.int x1]) (rest := []) ca_X12_isPost ml_RX12_341 im_X12_isPost se_X12_isPost (fx_in f6_0) (ob6_0 _ _ _ _ _) rfl rfl (ct_X12_isPost x1 h) (by rw [hR]; exact ⟨rfl, rfl, by decide, by decide⟩) rfl (Nat.le_of_ble_eq_true rfl) dX12_as_7 ⟨by rw [hR]; decide, by rw [hR]; decide⟩) (fun r_3 s_2 h => ?_)
  refine k_if_ne hC (pc := 10) 15 dX12_as_10 (by decide) (fun c_4 => ?_) (fun c_4 => ?_)
  · have h := h.1 c_4
    refine k_iload_n hC (pc := 15) dX12_as_15 2 rfl ?_
    refine k_iconst hC (pc := 16) (v := 0) dX12_as_16 ic_0 ?_
    refine k_iconst hC (pc := 17) (v := 2) dX12_as_17 ic_2 ?_
    refine k_ci (rn_S hC (pc := 18) (As := [.int x2, .int 0, .int 2]) (rest := []) ca_X12_within ml_RX12_186 sm_X12_within (ct_X12_within x2 0 2 h) (by rw [hR]; exact ⟨rfl, rfl, by decide, by decide⟩) rfl (Nat.le_of_ble_eq_true rfl) dX12_as_18 ⟨by rw [hR]; decide, by rw [hR]; decide⟩) (fun r_6 s_5 h => ?_)
    refine k_if_ne hC (pc := 21) 27 dX12_as_21 (by decide) (fun c_7 => ?_) (fun c_7 => ?_)
    · have h := h.1 c_7
      refine k_aload_n hC (pc := 27) dX12_as_27 0 rfl ?_
      refine gf_X12_11 hC (pc := 28)  fl_RX12_28 dX12_as_28 ?_
      refine k_iload_n hC (pc := 31) dX12_as_31 1 rfl ?_
      obtain ⟨c_8, h⟩ := h
      refine r_iald hC (pc := 32) ra5_11 c_8 dX12_as_32 ?_
      refine k_iload_n hC (pc := 33) dX12_as_33 2 rfl ?_
      refine k_icmp_lt hC (pc := 34) 41 dX12_as_34 (by decide) (fun c_9 => ?_) (fun c_9 => ?_)
      · have h := h.1 c_9
        refine k_aload_n hC (pc := 41) dX12_as_41 0 rfl ?_
        refine k_iconst hC (pc := 42) (v := 2) dX12_as_42 ic_2 ?_
        refine k_ci (rn_V hC (pc := 43) (As := [.int 2]) (rest := []) ca_X12_fails ml_RX12_249 im_X12_fails se_X12_fails (fx_in f6_0) (ob6_0 _ _ _ _ _) rfl rfl (ct_X12_fails 2 h) (by rw [hR]; exact ⟨rfl, rfl, by decide, by decide⟩) rfl (Nat.le_of_ble_eq_true rfl) dX12_as_43 ⟨by rw [hR]; decide, by rw [hR]; decide⟩) (fun r_11 s_10 h => ?_)
        exact k_iret hC (pc := 46) hQ hr dX12_as_46 h
      · have h := h.2 c_9
        refine k_iconst hC (pc := 37) (v := 1) dX12_as_37 ic_1 ?_
        refine k_goto hC (pc := 38) 46 dX12_as_38 (by decide) ?_
        exact k_iret hC (pc := 46) hQ hr dX12_as_46 h
    · have h := h.2 c_7
      refine k_bipush hC (pc := 24) (v := (-2)) dX12_as_24 bp_m2 ?_
      exact k_iret hC (pc := 26) hQ hr dX12_as_26 h
  · have h := h.2 c_4
    refine k_iconst hC (pc := 13) (v := (-1)) dX12_as_13 ic_m1 ?_
    exact k_iret hC (pc := 14) hQ hr dX12_as_14 h
theorem ct_X12_as {l : Launch} {G : Gx} {a : Ax} {s : Sx} {N : Nat} {post : Int32 → Sx → Prop} (x1 : Int32) (x2 : Int32) (h : w_X12_as N x1 x2 s post) : Met l yX12_as (Cond.code yX12_as cX12_as 3 (some .int) :: gw) { frames := 1, cells := 0, slots := 0, locals := 22 } (va_Pc [.ref (adr G a 6 0), .int x1, .int x2] (fun U => FU G a s U)) (Qi G a post) 0 0 (bs_ G) := met_of (plainFor_of_name (by decide)) (Nat.le_of_ble_eq_true rfl) rfl (fun X hC hl hR hQ hr hG hn => by subst hG; exact b_X12_as hC hR hQ hr hn s x1 x2 h)
theorem ca_X12_as : Ca yX12_as cX12_as 3 (some .int) 2 := ⟨cd_X12_as, ii_RX12, by decide, by decide, by decide +kernel⟩
def w_X12_trace (N : Nat) (s : Sx) (post : Int32 → Sx → Prop) : Prop := post (s.1 6 0 1) s
set_option maxHeartbeats 4000000 in
theorem b_X12_trace {X : Kx} {a : Ax} {N : Nat} {post : Int32 → Sx → Prop} (hC : Cx X cX12_trace 1 RX12) (hR : X.R = { frames := 0, cells := 0, slots := 0, locals := 0 }) (hQ : X.Q = MQ X.below (Qi X.G a post) X.av X.s 0 0 (bs_ X.G)) (hr : X.meth.sig.returnType = (some .int)) (hn : X.meth.name = "trace") (s : Sx) (h : w_X12_trace N s post) : wk X a s 1 0 [(0, .ref (adr X.G a 6 0))] [] 0 0 := by
  unfold w_X12_trace at h
  refine k_aload_n hC (pc := 0) dX12_trace_0 0 rfl ?_
  refine gf_X12_1 hC (pc := 1)  fl_RX12_338 dX12_trace_1 ?_
  exact k_iret hC (pc := 4) hQ hr dX12_trace_4 h
theorem ct_X12_trace {l : Launch} {G : Gx} {a : Ax} {s : Sx} {N : Nat} {post : Int32 → Sx → Prop} (h : w_X12_trace N s post) : Met l yX12_trace (Cond.code yX12_trace cX12_trace 1 (some .int) :: gw) { frames := 0, cells := 0, slots := 0, locals := 0 } (va_Pc [.ref (adr G a 6 0)] (fun U => FU G a s U)) (Qi G a post) 0 0 (bs_ G) := met_of (plainFor_of_name (by decide)) (Nat.le_of_ble_eq_true rfl) rfl (fun X hC hl hR hQ hr hG hn => by subst hG; exact b_X12_trace hC hR hQ hr hn s h)
theorem ca_X12_trace : Ca yX12_trace cX12_trace 1 (some .int) 0 := ⟨cd_X12_trace, ii_RX12, by decide, by decide, by decide +kernel⟩
def w_X12_fault (N : Nat) (s : Sx) (post : Int32 → Sx → Prop) : Prop := post (s.1 6 0 0) s
set_option maxHeartbeats 4000000 in
theorem b_X12_fault {X : Kx} {a : Ax} {N : Nat} {post : Int32 → Sx → Prop} (hC : Cx X cX12_fault 1 RX12) (hR : X.R = { frames := 0, cells := 0, slots := 0, locals := 0 }) (hQ : X.Q = MQ X.below (Qi X.G a post) X.av X.s 0 0 (bs_ X.G)) (hr : X.meth.sig.returnType = (some .int)) (hn : X.meth.name = "fault") (s : Sx) (h : w_X12_fault N s post) : wk X a s 1 0 [(0, .ref (adr X.G a 6 0))] [] 0 0 := by
  unfold w_X12_fault at h
  refine k_aload_n hC (pc := 0) dX12_fault_0 0 rfl ?_
  refine gf_X12_0 hC (pc := 1)  fl_RX12_181 dX12_fault_1 ?_
  exact k_iret hC (pc := 4) hQ hr dX12_fault_4 h
theorem ct_X12_fault {l : Launch} {G : Gx} {a : Ax} {s : Sx} {N : Nat} {post : Int32 → Sx → Prop} (h : w_X12_fault N s post) : Met l yX12_fault (Cond.code yX12_fault cX12_fault 1 (some .int) :: gw) { frames := 0, cells := 0, slots := 0, locals := 0 } (va_Pc [.ref (adr G a 6 0)] (fun U => FU G a s U)) (Qi G a post) 0 0 (bs_ G) := met_of (plainFor_of_name (by decide)) (Nat.le_of_ble_eq_true rfl) rfl (fun X hC hl hR hQ hr hG hn => by subst hG; exact b_X12_fault hC hR hQ hr hn s h)
theorem ca_X12_fault : Ca yX12_fault cX12_fault 1 (some .int) 0 := ⟨cd_X12_fault, ii_RX12, by decide, by decide, by decide +kernel⟩
def w_X12_many (N : Nat) (x1 : Int32) (s : Sx) (post : Int32 → Sx → Prop) : Prop := (x1 = 0 → post (s.1 6 0 5) s) ∧ (¬ (x1 = 0) → (x1 = 1 → post (s.1 6 0 9) s) ∧ (¬ (x1 = 1) → (x1 = 2 → post (s.1 6 0 10) s) ∧ (¬ (x1 = 2) → (x1 = 3 → post (s.1 6 0 16) s) ∧ (¬ (x1 = 3) → (x1 = 4 → post (s.1 6 0 31) s) ∧ (¬ (x1 = 4) → (x1 = 5 → post (s.1 6 0 35) s) ∧ (¬ (x1 = 5) → (x1 = 6 → post (s.1 6 0 46) s) ∧ (¬ (x1 = 6) → (x1 = 7 → post (s.1 6 0 50) s) ∧ (¬ (x1 = 7) → (x1 = 8 → post (s.1 6 0 55) s) ∧ (¬ (x1 = 8) → (x1 = 9 → post (s.1 6 0 63) s) ∧ (¬ (x1 = 9) → post ((-2)) s))))))))))
set_option maxHeartbeats 4000000 in
theorem b_X12_many {X : Kx} {a : Ax} {N : Nat} {post : Int32 → Sx → Prop} (hC : Cx X cX12_many 2 RX12) (hR : X.R = { frames := 0, cells := 0, slots := 0, locals := 0 }) (hQ : X.Q = MQ X.below (Qi X.G a post) X.av X.s 0 0 (bs_ X.G)) (hr : X.meth.sig.returnType = (some .int)) (hn : X.meth.name = "many") (s : Sx) (x1 : Int32) (h : w_X12_many N x1 s post) : wk X a s 2 0 [(0, .ref (adr X.G a 6 0)), (1, .int x1)] [] 0 0 := by
  unfold w_X12_many at h
  refine k_iload_n hC (pc := 0) dX12_many_0 1 rfl ?_
  by_cases c_1 : x1 = 0
  · have h := h.1 c_1
    refine k_tsIn hC (pc := 1) (x := x1) 56 dX12_many_1 (by rw [c_1]; decide) (by rw [c_1]; decide) (by rw [c_1]; rfl) (by decide) ?_
    refine k_aload_n hC (pc := 56) dX12_many_56 0 rfl ?_
    refine gf_X12_5 hC (pc := 57)  fl_RX12_190 dX12_many_57 ?_
    exact k_iret hC (pc := 60) hQ hr dX12_many_60 h
  · have h := h.2 c_1
    by_cases c_2 : x1 = 1
    · have h := h.1 c_2
      refine k_tsIn hC (pc := 1) (x := x1) 61 dX12_many_1 (by rw [c_2]; decide) (by rw [c_2]; decide) (by rw [c_2]; rfl) (by decide) ?_
      refine k_aload_n hC (pc := 61) dX12_many_61 0 rfl ?_
      refine gf_X12_9 hC (pc := 62)  fl_RX12_193 dX12_many_62 ?_
      exact k_iret hC (pc := 65) hQ hr dX12_many_65 h
    · have h := h.2 c_2
      by_cases c_3 : x1 = 2
      · have h := h.1 c_3
        refine k_tsIn hC (pc := 1) (x := x1) 66 dX12_many_1 (by rw [c_3]; decide) (by rw [c_3]; decide) (by rw [c_3]; rfl) (by decide) ?_
        refine k_aload_n hC (pc := 66) dX12_many_66 0 rfl ?_
        refine gf_X12_10 hC (pc := 67)  fl_RX12_196 dX12_many_67 ?_
        exact k_iret hC (pc := 70) hQ hr dX12_many_70 h
      · have h := h.2 c_3
        by_cases c_4 : x1 = 3
        · have h := h.1 c_4
          refine k_tsIn hC (pc := 1) (x := x1) 71 dX12_many_1 (by rw [c_4]; decide) (by rw [c_4]; decide) (by rw [c_4]; rfl) (by decide) ?_
          refine k_aload_n hC (pc := 71) dX12_many_71 0 rfl ?_
          refine gf_X12_16 hC (pc := 72)  fl_RX12_256 dX12_many_72 ?_
          exact k_iret hC (pc := 75) hQ hr dX12_many_75 h
        · have h := h.2 c_4
          by_cases c_5 : x1 = 4
          · have h := h.1 c_5
            refine k_tsIn hC (pc := 1) (x := x1) 76 dX12_many_1 (by rw [c_5]; decide) (by rw [c_5]; decide) (by rw [c_5]; rfl) (by decide) ?_
            refine k_aload_n hC (pc := 76) dX12_many_76 0 rfl ?_
            refine gf_X12_31 hC (pc := 77)  fl_RX12_268 dX12_many_77 ?_
            exact k_iret hC (pc := 80) hQ hr dX12_many_80 h
          · have h := h.2 c_5
            by_cases c_6 : x1 = 5
            · have h := h.1 c_6
              refine k_tsIn hC (pc := 1) (x := x1) 81 dX12_many_1 (by rw [c_6]; decide) (by rw [c_6]; decide) (by rw [c_6]; rfl) (by decide) ?_
              refine k_aload_n hC (pc := 81) dX12_many_81 0 rfl ?_
              refine gf_X12_35 hC (pc := 82)  fl_RX12_271 dX12_many_82 ?_
              exact k_iret hC (pc := 85) hQ hr dX12_many_85 h
            · have h := h.2 c_6
              by_cases c_7 : x1 = 6
              · have h := h.1 c_7
                refine k_tsIn hC (pc := 1) (x := x1) 86 dX12_many_1 (by rw [c_7]; decide) (by rw [c_7]; decide) (by rw [c_7]; rfl) (by decide) ?_
                refine k_aload_n hC (pc := 86) dX12_many_86 0 rfl ?_
                refine gf_X12_46 hC (pc := 87)  fl_RX12_277 dX12_many_87 ?_
                exact k_iret hC (pc := 90) hQ hr dX12_many_90 h
              · have h := h.2 c_7
                by_cases c_8 : x1 = 7
                · have h := h.1 c_8
                  refine k_tsIn hC (pc := 1) (x := x1) 91 dX12_many_1 (by rw [c_8]; decide) (by rw [c_8]; decide) (by rw [c_8]; rfl) (by decide) ?_
                  refine k_aload_n hC (pc := 91) dX12_many_91 0 rfl ?_
                  refine gf_X12_50 hC (pc := 92)  fl_RX12_285 dX12_many_92 ?_
                  exact k_iret hC (pc := 95) hQ hr dX12_many_95 h
                · have h := h.2 c_8
                  by_cases c_9 : x1 = 8
                  · have h := h.1 c_9
                    refine k_tsIn hC (pc := 1) (x := x1) 96 dX12_many_1 (by rw [c_9]; decide) (by rw [c_9]; decide) (by rw [c_9]; rfl) (by decide) ?_
                    refine k_aload_n hC (pc := 96) dX12_many_96 0 rfl ?_
                    refine gf_X12_55 hC (pc := 97)  fl_RX12_291 dX12_many_97 ?_
                    exact k_iret hC (pc := 100) hQ hr dX12_many_100 h
                  · have h := h.2 c_9
                    by_cases c_10 : x1 = 9
                    · have h := h.1 c_10
                      refine k_tsIn hC (pc := 1) (x := x1) 101 dX12_many_1 (by rw [c_10]; decide) (by rw [c_10]; decide) (by rw [c_10]; rfl) (by decide) ?_
                      refine k_aload_n hC (pc := 101) dX12_many_101 0 rfl ?_
                      refine gf_X12_63 hC (pc := 102)  fl_RX12_317 dX12_many_102 ?_
                      exact k_iret hC (pc := 105) hQ hr dX12_many_105 h
                    · have h := h.2 c_10
                      refine k_tsOut hC (pc := 1) (x := x1) 106 dX12_many_1 (ts_out10 c_1 c_2 c_3 c_4 c_5 c_6 c_7 c_8 c_9 c_10) (by decide) ?_
                      refine k_bipush hC (pc := 106) (v := (-2)) dX12_many_106 bp_m2 ?_
                      exact k_iret hC (pc := 108) hQ hr dX12_many_108 h
theorem ct_X12_many {l : Launch} {G : Gx} {a : Ax} {s : Sx} {N : Nat} {post : Int32 → Sx → Prop} (x1 : Int32) (h : w_X12_many N x1 s post) : Met l yX12_many (Cond.code yX12_many cX12_many 2 (some .int) :: gw) { frames := 0, cells := 0, slots := 0, locals := 0 } (va_Pc [.ref (adr G a 6 0), .int x1] (fun U => FU G a s U)) (Qi G a post) 0 0 (bs_ G) := met_of (plainFor_of_name (by decide)) (Nat.le_of_ble_eq_true rfl) rfl (fun X hC hl hR hQ hr hG hn => by subst hG; exact b_X12_many hC hR hQ hr hn s x1 h)
theorem ca_X12_many : Ca yX12_many cX12_many 2 (some .int) 1 := ⟨cd_X12_many, ii_RX12, by decide, by decide, by decide +kernel⟩
