def w_X12_ofOrder (N : Nat) (x1 : Int32) (x2 : Int32) (s : Sx) (post : Int32 → Sx → Prop) : Prop := (x1 < 0 → post ((-1)) s) ∧ (¬ (x1 < 0) → (x1 < (s.1 6 0 16) → (x2 = 0 → vp_in x1 13 ∧ post (s.1 5 17 x1.toNatClampNeg) s) ∧ (¬ (x2 = 0) → (x2 = 1 → vp_in x1 13 ∧ post (s.1 5 18 x1.toNatClampNeg) s) ∧ (¬ (x2 = 1) → (x2 = 2 → vp_in x1 13 ∧ post (s.1 5 19 x1.toNatClampNeg) s) ∧ (¬ (x2 = 2) → (x2 = 3 → vp_in x1 13 ∧ post (s.1 5 20 x1.toNatClampNeg) s) ∧ (¬ (x2 = 3) → (x2 = 4 → vp_in x1 13 ∧ post (s.1 5 21 x1.toNatClampNeg) s) ∧ (¬ (x2 = 4) → (x2 = 5 → vp_in x1 13 ∧ post (s.1 5 22 x1.toNatClampNeg) s) ∧ (¬ (x2 = 5) → (x2 = 6 → vp_in x1 13 ∧ post (s.1 5 23 x1.toNatClampNeg) s) ∧ (¬ (x2 = 6) → post ((-2)) s)))))))) ∧ (¬ (x1 < (s.1 6 0 16)) → post ((-1)) s))
set_option maxHeartbeats 4000000 in
theorem b_X12_ofOrder {X : Kx} {a : Ax} {N : Nat} {post : Int32 → Sx → Prop} (hC : Cx X cX12_ofOrder 3 RX12) (hR : X.R = { frames := 0, cells := 0, slots := 0, locals := 0 }) (hQ : X.Q = MQ X.below (Qi X.G a post) X.av X.s 0 0 (bs_ X.G)) (hr : X.meth.sig.returnType = (some .int)) (hn : X.meth.name = "ofOrder") (s : Sx) (x1 : Int32) (x2 : Int32) (h : w_X12_ofOrder N x1 x2 s post) : wk X a s 3 0 [(0, .ref (adr X.G a 6 0)), (1, .int x1), (2, .int x2)] [] 0 0 := by
  unfold w_X12_ofOrder at h
  refine k_iload_n hC (pc := 0) dX12_ofOrder_0 1 rfl ?_
  refine k_if_lt hC (pc := 1) 12 dX12_ofOrder_1 (by decide) (fun c_1 => ?_) (fun c_1 => ?_)
  · have h := h.1 c_1
    refine k_iconst hC (pc := 12) (v := (-1)) dX12_ofOrder_12 ic_m1 ?_
    exact k_iret hC (pc := 13) hQ hr dX12_ofOrder_13 h
  · have h := h.2 c_1
    refine k_iload_n hC (pc := 4) dX12_ofOrder_4 1 rfl ?_
    refine k_aload_n hC (pc := 5) dX12_ofOrder_5 0 rfl ?_
    refine gf_X12_16 hC (pc := 6)  fl_RX12_256 dX12_ofOrder_6 ?_
    refine k_icmp_lt hC (pc := 9) 14 dX12_ofOrder_9 (by decide) (fun c_2 => ?_) (fun c_2 => ?_)
    · have h := h.1 c_2
      refine k_iload_n hC (pc := 14) dX12_ofOrder_14 2 rfl ?_
      by_cases c_4 : x2 = 0
      · have h := h.1 c_4
        refine k_tsIn hC (pc := 15) (x := x2) 56 dX12_ofOrder_15 (by rw [c_4]; decide) (by rw [c_4]; decide) (by rw [c_4]; rfl) (by decide) ?_
        refine k_aload_n hC (pc := 56) dX12_ofOrder_56 0 rfl ?_
        refine gf_X12_17 hC (pc := 57)  fl_RX12_43 dX12_ofOrder_57 ?_
        refine k_iload_n hC (pc := 60) dX12_ofOrder_60 1 rfl ?_
        obtain ⟨c_3, h⟩ := h
        refine r_iald hC (pc := 61) ra5_17 c_3 dX12_ofOrder_61 ?_
        exact k_iret hC (pc := 62) hQ hr dX12_ofOrder_62 h
      · have h := h.2 c_4
        by_cases c_6 : x2 = 1
        · have h := h.1 c_6
          refine k_tsIn hC (pc := 15) (x := x2) 63 dX12_ofOrder_15 (by rw [c_6]; decide) (by rw [c_6]; decide) (by rw [c_6]; rfl) (by decide) ?_
          refine k_aload_n hC (pc := 63) dX12_ofOrder_63 0 rfl ?_
          refine gf_X12_18 hC (pc := 64)  fl_RX12_46 dX12_ofOrder_64 ?_
          refine k_iload_n hC (pc := 67) dX12_ofOrder_67 1 rfl ?_
          obtain ⟨c_5, h⟩ := h
          refine r_iald hC (pc := 68) ra5_18 c_5 dX12_ofOrder_68 ?_
          exact k_iret hC (pc := 69) hQ hr dX12_ofOrder_69 h
        · have h := h.2 c_6
          by_cases c_8 : x2 = 2
          · have h := h.1 c_8
            refine k_tsIn hC (pc := 15) (x := x2) 70 dX12_ofOrder_15 (by rw [c_8]; decide) (by rw [c_8]; decide) (by rw [c_8]; rfl) (by decide) ?_
            refine k_aload_n hC (pc := 70) dX12_ofOrder_70 0 rfl ?_
            refine gf_X12_19 hC (pc := 71)  fl_RX12_49 dX12_ofOrder_71 ?_
            refine k_iload_n hC (pc := 74) dX12_ofOrder_74 1 rfl ?_
            obtain ⟨c_7, h⟩ := h
            refine r_iald hC (pc := 75) ra5_19 c_7 dX12_ofOrder_75 ?_
            exact k_iret hC (pc := 76) hQ hr dX12_ofOrder_76 h
          · have h := h.2 c_8
            by_cases c_10 : x2 = 3
            · have h := h.1 c_10
              refine k_tsIn hC (pc := 15) (x := x2) 77 dX12_ofOrder_15 (by rw [c_10]; decide) (by rw [c_10]; decide) (by rw [c_10]; rfl) (by decide) ?_
              refine k_aload_n hC (pc := 77) dX12_ofOrder_77 0 rfl ?_
              refine gf_X12_20 hC (pc := 78)  fl_RX12_52 dX12_ofOrder_78 ?_
              refine k_iload_n hC (pc := 81) dX12_ofOrder_81 1 rfl ?_
              obtain ⟨c_9, h⟩ := h
              refine r_iald hC (pc := 82) ra5_20 c_9 dX12_ofOrder_82 ?_
              exact k_iret hC (pc := 83) hQ hr dX12_ofOrder_83 h
            · have h := h.2 c_10
              by_cases c_12 : x2 = 4
              · have h := h.1 c_12
                refine k_tsIn hC (pc := 15) (x := x2) 84 dX12_ofOrder_15 (by rw [c_12]; decide) (by rw [c_12]; decide) (by rw [c_12]; rfl) (by decide) ?_
                refine k_aload_n hC (pc := 84) dX12_ofOrder_84 0 rfl ?_
                refine gf_X12_21 hC (pc := 85)  fl_RX12_55 dX12_ofOrder_85 ?_
                refine k_iload_n hC (pc := 88) dX12_ofOrder_88 1 rfl ?_
                obtain ⟨c_11, h⟩ := h
                refine r_iald hC (pc := 89) ra5_21 c_11 dX12_ofOrder_89 ?_
                exact k_iret hC (pc := 90) hQ hr dX12_ofOrder_90 h
              · have h := h.2 c_12
                by_cases c_14 : x2 = 5
                · have h := h.1 c_14
                  refine k_tsIn hC (pc := 15) (x := x2) 91 dX12_ofOrder_15 (by rw [c_14]; decide) (by rw [c_14]; decide) (by rw [c_14]; rfl) (by decide) ?_
                  refine k_aload_n hC (pc := 91) dX12_ofOrder_91 0 rfl ?_
                  refine gf_X12_22 hC (pc := 92)  fl_RX12_58 dX12_ofOrder_92 ?_
                  refine k_iload_n hC (pc := 95) dX12_ofOrder_95 1 rfl ?_
                  obtain ⟨c_13, h⟩ := h
                  refine r_iald hC (pc := 96) ra5_22 c_13 dX12_ofOrder_96 ?_
                  exact k_iret hC (pc := 97) hQ hr dX12_ofOrder_97 h
                · have h := h.2 c_14
                  by_cases c_16 : x2 = 6
                  · have h := h.1 c_16
                    refine k_tsIn hC (pc := 15) (x := x2) 98 dX12_ofOrder_15 (by rw [c_16]; decide) (by rw [c_16]; decide) (by rw [c_16]; rfl) (by decide) ?_
                    refine k_aload_n hC (pc := 98) dX12_ofOrder_98 0 rfl ?_
                    refine gf_X12_23 hC (pc := 99)  fl_RX12_61 dX12_ofOrder_99 ?_
                    refine k_iload_n hC (pc := 102) dX12_ofOrder_102 1 rfl ?_
                    obtain ⟨c_15, h⟩ := h
                    refine r_iald hC (pc := 103) ra5_23 c_15 dX12_ofOrder_103 ?_
                    exact k_iret hC (pc := 104) hQ hr dX12_ofOrder_104 h
                  · have h := h.2 c_16
                    refine k_tsOut hC (pc := 15) (x := x2) 105 dX12_ofOrder_15 (ts_out7 c_4 c_6 c_8 c_10 c_12 c_14 c_16) (by decide) ?_
                    refine k_bipush hC (pc := 105) (v := (-2)) dX12_ofOrder_105 bp_m2 ?_
                    exact k_iret hC (pc := 107) hQ hr dX12_ofOrder_107 h
    · have h := h.2 c_2
      refine k_iconst hC (pc := 12) (v := (-1)) dX12_ofOrder_12 ic_m1 ?_
      exact k_iret hC (pc := 13) hQ hr dX12_ofOrder_13 h
theorem ct_X12_ofOrder {l : Launch} {G : Gx} {a : Ax} {s : Sx} {N : Nat} {post : Int32 → Sx → Prop} (x1 : Int32) (x2 : Int32) (h : w_X12_ofOrder N x1 x2 s post) : Met l yX12_ofOrder (Cond.code yX12_ofOrder cX12_ofOrder 3 (some .int) :: gw) { frames := 0, cells := 0, slots := 0, locals := 0 } (va_Pc [.ref (adr G a 6 0), .int x1, .int x2] (fun U => FU G a s U)) (Qi G a post) 0 0 (bs_ G) := met_of (plainFor_of_name (by decide)) (Nat.le_of_ble_eq_true rfl) rfl (fun X hC hl hR hQ hr hG hn => by subst hG; exact b_X12_ofOrder hC hR hQ hr hn s x1 x2 h)
theorem ca_X12_ofOrder : Ca yX12_ofOrder cX12_ofOrder 3 (some .int) 2 := ⟨cd_X12_ofOrder, ii_RX12, by decide, by decide, by decide +kernel⟩
def w_X12_isOffice (N : Nat) (x0 : Int32) (s : Sx) (post : Int32 → Sx → Prop) : Prop := w_X12_within N x0 0 4 s (fun r_2 s_1 => (r_2 = 0 ∨ r_2 = 1) ∧ post r_2 s_1)
set_option maxHeartbeats 4000000 in
theorem b_X12_isOffice {X : Kx} {a : Ax} {N : Nat} {post : Int32 → Sx → Prop} (hC : Cx X cX12_isOffice 1 RX12) (hR : X.R = { frames := 1, cells := 0, slots := 0, locals := 22 }) (hQ : X.Q = MQ X.below (Qi X.G a post) X.av X.s 0 0 (bs_ X.G)) (hr : X.meth.sig.returnType = (some .boolean)) (hn : X.meth.name = "isOffice") (s : Sx) (x0 : Int32) (h : w_X12_isOffice N x0 s post) : wk X a s 1 0 [(0, .int x0)] [] 0 0 := by
  unfold w_X12_isOffice at h
  refine k_iload_n hC (pc := 0) dX12_isOffice_0 0 rfl ?_
  refine k_iconst hC (pc := 1) (v := 0) dX12_isOffice_1 ic_0 ?_
  refine k_iconst hC (pc := 2) (v := 4) dX12_isOffice_2 ic_4 ?_
  refine k_ci (rn_S hC (pc := 3) (As := [.int x0, .int 0, .int 4]) (rest := []) ca_X12_within ml_RX12_186 sm_X12_within (ct_X12_within x0 0 4 h) (by rw [hR]; exact ⟨rfl, rfl, by decide, by decide⟩) rfl (Nat.le_of_ble_eq_true rfl) dX12_isOffice_3 ⟨by rw [hR]; decide, by rw [hR]; decide⟩) (fun r_2 s_1 h => ?_)
  obtain ⟨c_3, h⟩ := h
  exact k_zret hC (pc := 6) hQ hr dX12_isOffice_6 c_3 h
theorem ct_X12_isOffice {l : Launch} {G : Gx} {a : Ax} {s : Sx} {N : Nat} {post : Int32 → Sx → Prop} (x0 : Int32) (h : w_X12_isOffice N x0 s post) : Met l yX12_isOffice (Cond.code yX12_isOffice cX12_isOffice 1 (some .boolean) :: gw) { frames := 1, cells := 0, slots := 0, locals := 22 } (va_Pc [.int x0] (fun U => FU G a s U)) (Qi G a post) 0 0 (bs_ G) := met_of (plainFor_of_name (by decide)) (Nat.le_of_ble_eq_true rfl) rfl (fun X hC hl hR hQ hr hG hn => by subst hG; exact b_X12_isOffice hC hR hQ hr hn s x0 h)
theorem ca_X12_isOffice : Ca yX12_isOffice cX12_isOffice 1 (some .boolean) 1 := ⟨cd_X12_isOffice, ii_RX12, by decide, by decide, by decide +kernel⟩
def w_X12_delay (N : Nat) (x1 : Int32) (x2 : Int32) (s : Sx) (post : Int32 → Sx → Prop) : Prop := w_X12_isOffice N x1 s (fun r_2 s_1 => (¬ r_2 = 0 → w_X12_within N x2 0 30 s_1 (fun r_5 s_4 => (¬ r_5 = 0 → vp_in x1 5 ∧ ∀ x_8 : Int32, x_8 = s_4.1 5 24 x1.toNatClampNeg → vp_in x1 5 ∧ ∀ s_10, s_10 = setI s_4 5 24 x1.toNatClampNeg x2 → post x_8 s_10) ∧ (¬ (¬ r_5 = 0) → post ((-2)) s_4))) ∧ (¬ (¬ r_2 = 0) → post ((-1)) s_1))
set_option maxHeartbeats 4000000 in
theorem b_X12_delay {X : Kx} {a : Ax} {N : Nat} {post : Int32 → Sx → Prop} (hC : Cx X cX12_delay 4 RX12) (hR : X.R = { frames := 2, cells := 0, slots := 0, locals := 42 }) (hQ : X.Q = MQ X.below (Qi X.G a post) X.av X.s 0 0 (bs_ X.G)) (hr : X.meth.sig.returnType = (some .int)) (hn : X.meth.name = "delay") (s : Sx) (x1 : Int32) (x2 : Int32) (h : w_X12_delay N x1 x2 s post) : wk X a s 4 0 [(0, .ref (adr X.G a 6 0)), (1, .int x1), (2, .int x2)] [] 0 0 := by
  unfold w_X12_delay at h
  refine k_iload_n hC (pc := 0) dX12_delay_0 1 rfl ?_
  refine k_ci (rn_S hC (pc := 1) (As := [.int x1]) (rest := []) ca_X12_isOffice ml_RX12_259 sm_X12_isOffice (ct_X12_isOffice x1 h) (by rw [hR]; exact ⟨rfl, rfl, by decide, by decide⟩) rfl (Nat.le_of_ble_eq_true rfl) dX12_delay_1 ⟨by rw [hR]; decide, by rw [hR]; decide⟩) (fun r_2 s_1 h => ?_)
  refine k_if_ne hC (pc := 4) 9 dX12_delay_4 (by decide) (fun c_3 => ?_) (fun c_3 => ?_)
  · have h := h.1 c_3
    refine k_iload_n hC (pc := 9) dX12_delay_9 2 rfl ?_
    refine k_iconst hC (pc := 10) (v := 0) dX12_delay_10 ic_0 ?_
    refine k_bipush hC (pc := 11) (v := 30) dX12_delay_11 bp_30 ?_
    refine k_ci (rn_S hC (pc := 13) (As := [.int x2, .int 0, .int 30]) (rest := []) ca_X12_within ml_RX12_186 sm_X12_within (ct_X12_within x2 0 30 h) (by rw [hR]; exact ⟨rfl, rfl, by decide, by decide⟩) rfl (Nat.le_of_ble_eq_true rfl) dX12_delay_13 ⟨by rw [hR]; decide, by rw [hR]; decide⟩) (fun r_5 s_4 h => ?_)
    refine k_if_ne hC (pc := 16) 22 dX12_delay_16 (by decide) (fun c_6 => ?_) (fun c_6 => ?_)
    · have h := h.1 c_6
      refine k_aload_n hC (pc := 22) dX12_delay_22 0 rfl ?_
      refine gf_X12_24 hC (pc := 23)  fl_RX12_64 dX12_delay_23 ?_
      refine k_iload_n hC (pc := 26) dX12_delay_26 1 rfl ?_
      obtain ⟨c_7, h⟩ := h
      refine r_iald hC (pc := 27) ra5_24 c_7 dX12_delay_27 ?_
      refine k_topi (fun x_8 h_x_8 => ?_)
      have h := h x_8 h_x_8
      refine k_istore_n hC (pc := 28) dX12_delay_28 [(3, .int x_8), (0, .ref (adr X.G a 6 0)), (1, .int x1), (2, .int x2)] (by decide) rfl ?_
      refine k_aload_n hC (pc := 29) dX12_delay_29 1 rfl ?_
      refine gf_X12_24 hC (pc := 30)  fl_RX12_64 dX12_delay_30 ?_
      refine k_iload_n hC (pc := 33) dX12_delay_33 2 rfl ?_
      refine k_iload_n hC (pc := 34) dX12_delay_34 3 rfl ?_
      obtain ⟨c_9, h⟩ := h
      refine r_iast hC (pc := 35) ra5_24 c_9 dX12_delay_35 (fun s_10 h_s_10 => ?_)
      have h := h s_10 h_s_10
      refine k_iload_n hC (pc := 36) dX12_delay_36 0 rfl ?_
      exact k_iret hC (pc := 37) hQ hr dX12_delay_37 h
    · have h := h.2 c_6
      refine k_bipush hC (pc := 19) (v := (-2)) dX12_delay_19 bp_m2 ?_
      exact k_iret hC (pc := 21) hQ hr dX12_delay_21 h
  · have h := h.2 c_3
    refine k_iconst hC (pc := 7) (v := (-1)) dX12_delay_7 ic_m1 ?_
    exact k_iret hC (pc := 8) hQ hr dX12_delay_8 h
theorem ct_X12_delay {l : Launch} {G : Gx} {a : Ax} {s : Sx} {N : Nat} {post : Int32 → Sx → Prop} (x1 : Int32) (x2 : Int32) (h : w_X12_delay N x1 x2 s post) : Met l yX12_delay (Cond.code yX12_delay cX12_delay 4 (some .int) :: gw) { frames := 2, cells := 0, slots := 0, locals := 42 } (va_Pc [.ref (adr G a 6 0), .int x1, .int x2] (fun U => FU G a s U)) (Qi G a post) 0 0 (bs_ G) := met_of (plainFor_of_name (by decide)) (Nat.le_of_ble_eq_true rfl) rfl (fun X hC hl hR hQ hr hG hn => by subst hG; exact b_X12_delay hC hR hQ hr hn s x1 x2 h)
theorem ca_X12_delay : Ca yX12_delay cX12_delay 4 (some .int) 2 := ⟨cd_X12_delay, ii_RX12, by decide, by decide, by decide +kernel⟩
def w_X12_whyOf_103 (N : Nat) (post : Int32 → Sx → Prop) (K7 : Sx → Int32 → Int32 → Int32 → Int32 → Int32 → Int32 → Prop) (s : Sx) (x1 : Int32) (x2 : Int32) (x3 : Int32) (x4 : Int32) (x5 : Int32) (x6 : Int32) (x7 : Int32) (z0 : Int32) : Prop := (x7 = 0 → ∀ x_11 : Int32, x_11 = x6 + 1 → K7 s x1 x2 x3 x4 x5 x_11) ∧ (¬ (x7 = 0) → (z0 = 0 → ∀ x_13 : Int32, x_13 = x6 + 1 → K7 s x1 x2 x3 x4 x5 x_13) ∧ (¬ (z0 = 0) → ∀ x_14 : Int32, x_14 = x6 + 1 → K7 s x1 x2 x3 x4 x6 x_14))
def w_X12_whyOf_102 (N : Nat) (post : Int32 → Sx → Prop) (K7 : Sx → Int32 → Int32 → Int32 → Int32 → Int32 → Int32 → Prop) (s : Sx) (x1 : Int32) (x2 : Int32) (x3 : Int32) (x4 : Int32) (x5 : Int32) (x6 : Int32) (x7 : Int32) : Prop := w_X12_whyOf_103 N post K7 s x1 x2 x3 x4 x5 x6 x7 0
def w_X12_whyOf_40 (N : Nat) (post : Int32 → Sx → Prop) (K7 : Sx → Int32 → Int32 → Int32 → Int32 → Int32 → Int32 → Prop) (s : Sx) (x1 : Int32) (x2 : Int32) (x3 : Int32) (x4 : Int32) (x5 : Int32) (x6 : Int32) (z0 : Int32) : Prop := vp_in x6 13 ∧ vp_in x6 13 ∧ w_X12_within N x2 (s.1 5 18 x6.toNatClampNeg) (s.1 5 19 x6.toNatClampNeg) s (fun r_8 s_7 => (r_8 = 0 → w_X12_whyOf_102 N post K7 s_7 x1 x2 x3 x4 x5 x6 z0) ∧ (¬ (r_8 = 0) → vp_in x6 13 ∧ vp_in x6 13 ∧ w_X12_within N x3 (s_7.1 5 20 x6.toNatClampNeg) (s_7.1 5 21 x6.toNatClampNeg) s_7 (fun r_18 s_17 => (r_18 = 0 → w_X12_whyOf_102 N post K7 s_17 x1 x2 x3 x4 x5 x6 z0) ∧ (¬ (r_18 = 0) → vp_in x6 13 ∧ (¬ (((s_17.1 5 22 x6.toNatClampNeg) >>> (x1 &&& 31)) &&& 1) = 0 → w_X12_whyOf_102 N post K7 s_17 x1 x2 x3 x4 x5 x6 z0) ∧ (¬ (¬ (((s_17.1 5 22 x6.toNatClampNeg) >>> (x1 &&& 31)) &&& 1) = 0) → w_X12_whyOf_103 N post K7 s_17 x1 x2 x3 x4 x5 x6 z0 1)))))
def w_X12_whyOf_7 (N : Nat) (post : Int32 → Sx → Prop) : Nat → Sx → Int32 → Int32 → Int32 → Int32 → Int32 → Int32 → Prop
  | 0, _, _, _, _, _, _, _ => False
  | n + 1, s, x1, x2, x3, x4, x5, x6 => ((s.1 6 0 16) ≤ x6 → post x5 s) ∧ (¬ ((s.1 6 0 16) ≤ x6) → vp_in x6 13 ∧ vp_in x4 5 ∧ (x3 < ((s.1 5 23 x6.toNatClampNeg) + (s.1 5 24 x4.toNatClampNeg)) → w_X12_whyOf_40 N post (w_X12_whyOf_7 N post n) s x1 x2 x3 x4 x5 x6 0) ∧ (¬ (x3 < ((s.1 5 23 x6.toNatClampNeg) + (s.1 5 24 x4.toNatClampNeg))) → w_X12_whyOf_40 N post (w_X12_whyOf_7 N post n) s x1 x2 x3 x4 x5 x6 1))
def w_X12_whyOf (N : Nat) (x1 : Int32) (x2 : Int32) (x3 : Int32) (x4 : Int32) (s : Sx) (post : Int32 → Sx → Prop) : Prop := w_X12_whyOf_7 N post N s x1 x2 x3 x4 ((-9)) 0
set_option maxHeartbeats 4000000 in
theorem b_X12_whyOf_103 {X : Kx} {a : Ax} {N : Nat} {post : Int32 → Sx → Prop} {K7 : Sx → Int32 → Int32 → Int32 → Int32 → Int32 → Int32 → Prop}  (hC : Cx X cX12_whyOf 9 RX12) (hR : X.R = { frames := 1, cells := 0, slots := 0, locals := 22 }) (hQ : X.Q = MQ X.below (Qi X.G a post) X.av X.s 0 0 (bs_ X.G)) (hr : X.meth.sig.returnType = (some .int))  (hK7 : ∀ (s : Sx) (x1 : Int32) (x2 : Int32) (x3 : Int32) (x4 : Int32) (x5 : Int32) (x6 : Int32), K7 s x1 x2 x3 x4 x5 x6 → wk X a s 9 7 [(0, .ref (adr X.G a 6 0)), (1, .int x1), (2, .int x2), (3, .int x3), (4, .int x4), (5, .int x5), (6, .int x6)] [] 0 0) (s : Sx) (x1 : Int32) (x2 : Int32) (x3 : Int32) (x4 : Int32) (x5 : Int32) (x6 : Int32) (x7 : Int32) (z0 : Int32) (h : w_X12_whyOf_103 N post K7 s x1 x2 x3 x4 x5 x6 x7 z0) : wk X a s 9 103 [(0, .ref (adr X.G a 6 0)), (1, .int x1), (2, .int x2), (3, .int x3), (4, .int x4), (5, .int x5), (6, .int x6), (7, .int x7)] [.int z0] 0 0 := by
  unfold w_X12_whyOf_103 at h
  refine k_istore hC (pc := 103) dX12_whyOf_103 [(8, .int z0), (0, .ref (adr X.G a 6 0)), (1, .int x1), (2, .int x2), (3, .int x3), (4, .int x4), (5, .int x5), (6, .int x6), (7, .int x7)] (by decide) rfl ?_
  refine k_iload hC (pc := 105) dX12_whyOf_105 8 rfl ?_
  refine k_if_eq hC (pc := 107) 120 dX12_whyOf_107 (by decide) (fun c_10 => ?_) (fun c_10 => ?_)
  · have h := h.1 c_10
    refine k_iload hC (pc := 120) dX12_whyOf_120 6 rfl ?_
    refine k_istore hC (pc := 122) dX12_whyOf_122 [(5, .int x5), (8, .int z0), (0, .ref (adr X.G a 6 0)), (1, .int x1), (2, .int x2), (3, .int x3), (4, .int x4), (6, .int x6), (7, .int x7)] (by decide) rfl ?_
    obtain ⟨x_11, h_x_11⟩ : ∃ z : Int32, z = x6 + 1 := ⟨_, rfl⟩
    have h := h x_11 h_x_11
    refine k_iincw hC (pc := 124) dX12_whyOf_124 7 rfl ic_1 h_x_11.symm [(6, .int x_11), (5, .int x5), (8, .int z0), (0, .ref (adr X.G a 6 0)), (1, .int x1), (2, .int x2), (3, .int x3), (4, .int x4), (7, .int x7)] (by decide) rfl ?_
    refine k_goto hC (pc := 127) 7 dX12_whyOf_127 (by decide) ?_
    refine k_sub [(0, .ref (adr X.G a 6 0)), (1, .int x1), (2, .int x2), (3, .int x3), (4, .int x4), (5, .int x5), (6, .int x_11)] [3, 4, 5, 6, 7, 1, 0] rfl ?_
    exact hK7 _ _ _ _ _ _ _ h
  · have h := h.2 c_10
    refine k_iload hC (pc := 110) dX12_whyOf_110 0 rfl ?_
    refine k_if_eq hC (pc := 112) 120 dX12_whyOf_112 (by decide) (fun c_12 => ?_) (fun c_12 => ?_)
    · have h := h.1 c_12
      refine k_iload hC (pc := 120) dX12_whyOf_120 6 rfl ?_
      refine k_istore hC (pc := 122) dX12_whyOf_122 [(5, .int x5), (8, .int z0), (0, .ref (adr X.G a 6 0)), (1, .int x1), (2, .int x2), (3, .int x3), (4, .int x4), (6, .int x6), (7, .int x7)] (by decide) rfl ?_
      obtain ⟨x_13, h_x_13⟩ : ∃ z : Int32, z = x6 + 1 := ⟨_, rfl⟩
      have h := h x_13 h_x_13
      refine k_iincw hC (pc := 124) dX12_whyOf_124 7 rfl ic_1 h_x_13.symm [(6, .int x_13), (5, .int x5), (8, .int z0), (0, .ref (adr X.G a 6 0)), (1, .int x1), (2, .int x2), (3, .int x3), (4, .int x4), (7, .int x7)] (by decide) rfl ?_
      refine k_goto hC (pc := 127) 7 dX12_whyOf_127 (by decide) ?_
      refine k_sub [(0, .ref (adr X.G a 6 0)), (1, .int x1), (2, .int x2), (3, .int x3), (4, .int x4), (5, .int x5), (6, .int x_13)] [3, 4, 5, 6, 7, 1, 0] rfl ?_
      exact hK7 _ _ _ _ _ _ _ h
    · have h := h.2 c_12
      refine k_iload hC (pc := 115) dX12_whyOf_115 7 rfl ?_
      refine k_goto hC (pc := 117) 122 dX12_whyOf_117 (by decide) ?_
      refine k_istore hC (pc := 122) dX12_whyOf_122 [(5, .int x6), (8, .int z0), (0, .ref (adr X.G a 6 0)), (1, .int x1), (2, .int x2), (3, .int x3), (4, .int x4), (6, .int x6), (7, .int x7)] (by decide) rfl ?_
      obtain ⟨x_14, h_x_14⟩ : ∃ z : Int32, z = x6 + 1 := ⟨_, rfl⟩
      have h := h x_14 h_x_14
      refine k_iincw hC (pc := 124) dX12_whyOf_124 7 rfl ic_1 h_x_14.symm [(6, .int x_14), (5, .int x6), (8, .int z0), (0, .ref (adr X.G a 6 0)), (1, .int x1), (2, .int x2), (3, .int x3), (4, .int x4), (7, .int x7)] (by decide) rfl ?_
      refine k_goto hC (pc := 127) 7 dX12_whyOf_127 (by decide) ?_
      refine k_sub [(0, .ref (adr X.G a 6 0)), (1, .int x1), (2, .int x2), (3, .int x3), (4, .int x4), (5, .int x6), (6, .int x_14)] [3, 4, 5, 6, 7, 1, 0] rfl ?_
      exact hK7 _ _ _ _ _ _ _ h
set_option maxHeartbeats 4000000 in
theorem b_X12_whyOf_102 {X : Kx} {a : Ax} {N : Nat} {post : Int32 → Sx → Prop} {K7 : Sx → Int32 → Int32 → Int32 → Int32 → Int32 → Int32 → Prop}  (hC : Cx X cX12_whyOf 9 RX12) (hR : X.R = { frames := 1, cells := 0, slots := 0, locals := 22 }) (hQ : X.Q = MQ X.below (Qi X.G a post) X.av X.s 0 0 (bs_ X.G)) (hr : X.meth.sig.returnType = (some .int))  (hK7 : ∀ (s : Sx) (x1 : Int32) (x2 : Int32) (x3 : Int32) (x4 : Int32) (x5 : Int32) (x6 : Int32), K7 s x1 x2 x3 x4 x5 x6 → wk X a s 9 7 [(0, .ref (adr X.G a 6 0)), (1, .int x1), (2, .int x2), (3, .int x3), (4, .int x4), (5, .int x5), (6, .int x6)] [] 0 0) (s : Sx) (x1 : Int32) (x2 : Int32) (x3 : Int32) (x4 : Int32) (x5 : Int32) (x6 : Int32) (x7 : Int32) (h : w_X12_whyOf_102 N post K7 s x1 x2 x3 x4 x5 x6 x7) : wk X a s 9 102 [(0, .ref (adr X.G a 6 0)), (1, .int x1), (2, .int x2), (3, .int x3), (4, .int x4), (5, .int x5), (6, .int x6), (7, .int x7)] [] 0 0 := by
  unfold w_X12_whyOf_102 at h
  refine k_iconst hC (pc := 102) (v := 0) dX12_whyOf_102 ic_0 ?_
  exact b_X12_whyOf_103 hC hR hQ hr hK7 _ _ _ _ _ _ _ _ _ h
set_option maxHeartbeats 4000000 in
theorem b_X12_whyOf_40 {X : Kx} {a : Ax} {N : Nat} {post : Int32 → Sx → Prop} {K7 : Sx → Int32 → Int32 → Int32 → Int32 → Int32 → Int32 → Prop}  (hC : Cx X cX12_whyOf 9 RX12) (hR : X.R = { frames := 1, cells := 0, slots := 0, locals := 22 }) (hQ : X.Q = MQ X.below (Qi X.G a post) X.av X.s 0 0 (bs_ X.G)) (hr : X.meth.sig.returnType = (some .int))  (hK7 : ∀ (s : Sx) (x1 : Int32) (x2 : Int32) (x3 : Int32) (x4 : Int32) (x5 : Int32) (x6 : Int32), K7 s x1 x2 x3 x4 x5 x6 → wk X a s 9 7 [(0, .ref (adr X.G a 6 0)), (1, .int x1), (2, .int x2), (3, .int x3), (4, .int x4), (5, .int x5), (6, .int x6)] [] 0 0) (s : Sx) (x1 : Int32) (x2 : Int32) (x3 : Int32) (x4 : Int32) (x5 : Int32) (x6 : Int32) (z0 : Int32) (h : w_X12_whyOf_40 N post K7 s x1 x2 x3 x4 x5 x6 z0) : wk X a s 9 40 [(0, .ref (adr X.G a 6 0)), (1, .int x1), (2, .int x2), (3, .int x3), (4, .int x4), (5, .int x5), (6, .int x6)] [.int z0] 0 0 := by
  unfold w_X12_whyOf_40 at h
  refine k_istore hC (pc := 40) dX12_whyOf_40 [(7, .int z0), (0, .ref (adr X.G a 6 0)), (1, .int x1), (2, .int x2), (3, .int x3), (4, .int x4), (5, .int x5), (6, .int x6)] (by decide) rfl ?_
  refine k_iload_n hC (pc := 42) dX12_whyOf_42 3 rfl ?_
  refine k_aload_n hC (pc := 43) dX12_whyOf_43 1 rfl ?_
  refine gf_X12_18 hC (pc := 44)  fl_RX12_46 dX12_whyOf_44 ?_
  refine k_iload hC (pc := 47) dX12_whyOf_47 7 rfl ?_
  obtain ⟨c_5, h⟩ := h
  refine r_iald hC (pc := 49) ra5_18 c_5 dX12_whyOf_49 ?_
  refine k_aload_n hC (pc := 50) dX12_whyOf_50 1 rfl ?_
  refine gf_X12_19 hC (pc := 51)  fl_RX12_49 dX12_whyOf_51 ?_
  refine k_iload hC (pc := 54) dX12_whyOf_54 7 rfl ?_
  obtain ⟨c_6, h⟩ := h
  refine r_iald hC (pc := 56) ra5_19 c_6 dX12_whyOf_56 ?_
  refine k_ci (rn_S hC (pc := 57) (As := [.int x2, .int (s.1 5 18 x6.toNatClampNeg), .int (s.1 5 19 x6.toNatClampNeg)]) (rest := []) ca_X12_within ml_RX12_186 sm_X12_within (ct_X12_within x2 (s.1 5 18 x6.toNatClampNeg) (s.1 5 19 x6.toNatClampNeg) h) (by rw [hR]; exact ⟨rfl, rfl, by decide, by decide⟩) rfl (Nat.le_of_ble_eq_true rfl) dX12_whyOf_57 ⟨by rw [hR]; decide, by rw [hR]; decide⟩) (fun r_8 s_7 h => ?_)
  refine k_if_eq hC (pc := 60) 102 dX12_whyOf_60 (by decide) (fun c_9 => ?_) (fun c_9 => ?_)
  · have h := h.1 c_9
    refine k_sub [(0, .ref (adr X.G a 6 0)), (1, .int x1), (2, .int x2), (3, .int x3), (4, .int x4), (5, .int x5), (6, .int x6), (7, .int z0)] [1, 2, 3, 4, 5, 6, 7, 0] rfl ?_
    exact b_X12_whyOf_102 hC hR hQ hr hK7 _ _ _ _ _ _ _ _ h
  · have h := h.2 c_9
    refine k_iload_n hC (pc := 63) dX12_whyOf_63 4 rfl ?_
    refine k_aload_n hC (pc := 64) dX12_whyOf_64 1 rfl ?_
    refine gf_X12_20 hC (pc := 65)  fl_RX12_52 dX12_whyOf_65 ?_
    refine k_iload hC (pc := 68) dX12_whyOf_68 7 rfl ?_
    obtain ⟨c_15, h⟩ := h
    refine r_iald hC (pc := 70) ra5_20 c_15 dX12_whyOf_70 ?_
    refine k_aload_n hC (pc := 71) dX12_whyOf_71 1 rfl ?_
    refine gf_X12_21 hC (pc := 72)  fl_RX12_55 dX12_whyOf_72 ?_
    refine k_iload hC (pc := 75) dX12_whyOf_75 7 rfl ?_
    obtain ⟨c_16, h⟩ := h
    refine r_iald hC (pc := 77) ra5_21 c_16 dX12_whyOf_77 ?_
    refine k_ci (rn_S hC (pc := 78) (As := [.int x3, .int (s_7.1 5 20 x6.toNatClampNeg), .int (s_7.1 5 21 x6.toNatClampNeg)]) (rest := []) ca_X12_within ml_RX12_186 sm_X12_within (ct_X12_within x3 (s_7.1 5 20 x6.toNatClampNeg) (s_7.1 5 21 x6.toNatClampNeg) h) (by rw [hR]; exact ⟨rfl, rfl, by decide, by decide⟩) rfl (Nat.le_of_ble_eq_true rfl) dX12_whyOf_78 ⟨by rw [hR]; decide, by rw [hR]; decide⟩) (fun r_18 s_17 h => ?_)
    refine k_if_eq hC (pc := 81) 102 dX12_whyOf_81 (by decide) (fun c_19 => ?_) (fun c_19 => ?_)
    · have h := h.1 c_19
      refine k_sub [(0, .ref (adr X.G a 6 0)), (1, .int x1), (2, .int x2), (3, .int x3), (4, .int x4), (5, .int x5), (6, .int x6), (7, .int z0)] [1, 2, 3, 4, 5, 6, 7, 0] rfl ?_
      exact b_X12_whyOf_102 hC hR hQ hr hK7 _ _ _ _ _ _ _ _ h
    · have h := h.2 c_19
      refine k_aload_n hC (pc := 84) dX12_whyOf_84 1 rfl ?_
      refine gf_X12_22 hC (pc := 85)  fl_RX12_58 dX12_whyOf_85 ?_
      refine k_iload hC (pc := 88) dX12_whyOf_88 7 rfl ?_
      obtain ⟨c_20, h⟩ := h
      refine r_iald hC (pc := 90) ra5_22 c_20 dX12_whyOf_90 ?_
      refine k_iload_n hC (pc := 91) dX12_whyOf_91 2 rfl ?_
      refine k_ishr hC (pc := 92) dX12_whyOf_92 ?_
      refine k_iconst hC (pc := 93) (v := 1) dX12_whyOf_93 ic_1 ?_
      refine k_iand hC (pc := 94) dX12_whyOf_94 ?_
      refine k_if_ne hC (pc := 95) 102 dX12_whyOf_95 (by decide) (fun c_21 => ?_) (fun c_21 => ?_)
      · have h := h.1 c_21
        refine k_sub [(0, .ref (adr X.G a 6 0)), (1, .int x1), (2, .int x2), (3, .int x3), (4, .int x4), (5, .int x5), (6, .int x6), (7, .int z0)] [1, 2, 3, 4, 5, 6, 7, 0] rfl ?_
        exact b_X12_whyOf_102 hC hR hQ hr hK7 _ _ _ _ _ _ _ _ h
      · have h := h.2 c_21
        refine k_iconst hC (pc := 98) (v := 1) dX12_whyOf_98 ic_1 ?_
        refine k_goto hC (pc := 99) 103 dX12_whyOf_99 (by decide) ?_
        refine k_sub [(0, .ref (adr X.G a 6 0)), (1, .int x1), (2, .int x2), (3, .int x3), (4, .int x4), (5, .int x5), (6, .int x6), (7, .int z0)] [1, 2, 3, 4, 5, 6, 7, 0] rfl ?_
        exact b_X12_whyOf_103 hC hR hQ hr hK7 _ _ _ _ _ _ _ _ _ h
set_option maxHeartbeats 4000000 in
theorem b_X12_whyOf_7 {X : Kx} {a : Ax} {N : Nat} {post : Int32 → Sx → Prop}  (hC : Cx X cX12_whyOf 9 RX12) (hR : X.R = { frames := 1, cells := 0, slots := 0, locals := 22 }) (hQ : X.Q = MQ X.below (Qi X.G a post) X.av X.s 0 0 (bs_ X.G)) (hr : X.meth.sig.returnType = (some .int))   : ∀ (n : Nat) (s : Sx) (x1 : Int32) (x2 : Int32) (x3 : Int32) (x4 : Int32) (x5 : Int32) (x6 : Int32), w_X12_whyOf_7 N post  n s x1 x2 x3 x4 x5 x6 → wk X a s 9 7 [(0, .ref (adr X.G a 6 0)), (1, .int x1), (2, .int x2), (3, .int x3), (4, .int x4), (5, .int x5), (6, .int x6)] [] 0 0 := by
  intro n
  induction n with
  | zero => intro s x1 x2 x3 x4 x5 x6 h; exact h.elim
  | succ n ih =>
    intro s x1 x2 x3 x4 x5 x6 h
    unfold w_X12_whyOf_7 at h
    refine k_iload hC (pc := 7) dX12_whyOf_7 6 rfl ?_
    refine k_aload_n hC (pc := 9) dX12_whyOf_9 0 rfl ?_
    refine gf_X12_16 hC (pc := 10)  fl_RX12_256 dX12_whyOf_10 ?_
    refine k_icmp_ge hC (pc := 13) 130 dX12_whyOf_13 (by decide) (fun c_1 => ?_) (fun c_1 => ?_)
    · have h := h.1 c_1
      refine k_iload hC (pc := 130) dX12_whyOf_130 5 rfl ?_
      exact k_iret hC (pc := 132) hQ hr dX12_whyOf_132 h
    · have h := h.2 c_1
      refine k_iload_n hC (pc := 16) dX12_whyOf_16 3 rfl ?_
      refine k_aload_n hC (pc := 17) dX12_whyOf_17 0 rfl ?_
      refine gf_X12_23 hC (pc := 18)  fl_RX12_61 dX12_whyOf_18 ?_
      refine k_iload hC (pc := 21) dX12_whyOf_21 6 rfl ?_
      obtain ⟨c_2, h⟩ := h
      refine r_iald hC (pc := 23) ra5_23 c_2 dX12_whyOf_23 ?_
      refine k_aload_n hC (pc := 24) dX12_whyOf_24 0 rfl ?_
      refine gf_X12_24 hC (pc := 25)  fl_RX12_64 dX12_whyOf_25 ?_
      refine k_iload hC (pc := 28) dX12_whyOf_28 4 rfl ?_
      obtain ⟨c_3, h⟩ := h
      refine r_iald hC (pc := 30) ra5_24 c_3 dX12_whyOf_30 ?_
      refine k_iadd hC (pc := 31) dX12_whyOf_31 ?_
      refine k_icmp_lt hC (pc := 32) 39 dX12_whyOf_32 (by decide) (fun c_4 => ?_) (fun c_4 => ?_)
      · have h := h.1 c_4
        refine k_iconst hC (pc := 39) (v := 0) dX12_whyOf_39 ic_0 ?_
        exact b_X12_whyOf_40 hC hR hQ hr ih _ _ _ _ _ _ _ _ h
      · have h := h.2 c_4
        refine k_iconst hC (pc := 35) (v := 1) dX12_whyOf_35 ic_1 ?_
        refine k_goto hC (pc := 36) 40 dX12_whyOf_36 (by decide) ?_
        exact b_X12_whyOf_40 hC hR hQ hr ih _ _ _ _ _ _ _ _ h
set_option maxHeartbeats 4000000 in
theorem b_X12_whyOf {X : Kx} {a : Ax} {N : Nat} {post : Int32 → Sx → Prop} (hC : Cx X cX12_whyOf 9 RX12) (hR : X.R = { frames := 1, cells := 0, slots := 0, locals := 22 }) (hQ : X.Q = MQ X.below (Qi X.G a post) X.av X.s 0 0 (bs_ X.G)) (hr : X.meth.sig.returnType = (some .int)) (hn : X.meth.name = "whyOf") (s : Sx) (x1 : Int32) (x2 : Int32) (x3 : Int32) (x4 : Int32) (h : w_X12_whyOf N x1 x2 x3 x4 s post) : wk X a s 9 0 [(0, .ref (adr X.G a 6 0)), (1, .int x1), (2, .int x2), (3, .int x3), (4, .int x4)] [] 0 0 := by
  unfold w_X12_whyOf at h
  refine k_bipush hC (pc := 0) (v := (-9)) dX12_whyOf_0 bp_m9 ?_
  refine k_istore hC (pc := 2) dX12_whyOf_2 [(5, .int ((-9))), (0, .ref (adr X.G a 6 0)), (1, .int x1), (2, .int x2), (3, .int x3), (4, .int x4)] (by decide) rfl ?_
  refine k_iconst hC (pc := 4) (v := 0) dX12_whyOf_4 ic_0 ?_
  refine k_istore hC (pc := 5) dX12_whyOf_5 [(6, .int 0), (5, .int ((-9))), (0, .ref (adr X.G a 6 0)), (1, .int x1), (2, .int x2), (3, .int x3), (4, .int x4)] (by decide) rfl ?_
  refine k_sub [(0, .ref (adr X.G a 6 0)), (1, .int x1), (2, .int x2), (3, .int x3), (4, .int x4), (5, .int ((-9))), (6, .int 0)] [2, 3, 4, 5, 6, 1, 0] rfl ?_
  exact b_X12_whyOf_7 hC hR hQ hr N _ _ _ _ _ _ _ h
theorem ct_X12_whyOf {l : Launch} {G : Gx} {a : Ax} {s : Sx} {N : Nat} {post : Int32 → Sx → Prop} (x1 : Int32) (x2 : Int32) (x3 : Int32) (x4 : Int32) (h : w_X12_whyOf N x1 x2 x3 x4 s post) : Met l yX12_whyOf (Cond.code yX12_whyOf cX12_whyOf 9 (some .int) :: gw) { frames := 1, cells := 0, slots := 0, locals := 22 } (va_Pc [.ref (adr G a 6 0), .int x1, .int x2, .int x3, .int x4] (fun U => FU G a s U)) (Qi G a post) 0 0 (bs_ G) := met_of (plainFor_of_name (by decide)) (Nat.le_of_ble_eq_true rfl) rfl (fun X hC hl hR hQ hr hG hn => by subst hG; exact b_X12_whyOf hC hR hQ hr hn s x1 x2 x3 x4 h)
theorem ca_X12_whyOf : Ca yX12_whyOf cX12_whyOf 9 (some .int) 4 := ⟨cd_X12_whyOf, ii_RX12, by decide, by decide, by decide +kernel⟩
def w_X12_wordOf (N : Nat) (x1 : Int32) (x2 : Int32) (x3 : Int32) (x4 : Int32) (s : Sx) (post : Int32 → Sx → Prop) : Prop := w_X12_whyOf N x1 x2 x3 x4 s (fun r_2 s_1 => (¬ r_2 = ((-9)) → vp_in r_2 13 ∧ post (s_1.1 5 17 r_2.toNatClampNeg) s_1) ∧ (¬ (¬ r_2 = ((-9))) → post ((-9)) s_1))
set_option maxHeartbeats 4000000 in
theorem b_X12_wordOf {X : Kx} {a : Ax} {N : Nat} {post : Int32 → Sx → Prop} (hC : Cx X cX12_wordOf 6 RX12) (hR : X.R = { frames := 2, cells := 0, slots := 0, locals := 50 }) (hQ : X.Q = MQ X.below (Qi X.G a post) X.av X.s 0 0 (bs_ X.G)) (hr : X.meth.sig.returnType = (some .int)) (hn : X.meth.name = "wordOf") (s : Sx) (x1 : Int32) (x2 : Int32) (x3 : Int32) (x4 : Int32) (h : w_X12_wordOf N x1 x2 x3 x4 s post) : wk X a s 6 0 [(0, .ref (adr X.G a 6 0)), (1, .int x1), (2, .int x2), (3, .int x3), (4, .int x4)] [] 0 0 := by
  unfold w_X12_wordOf at h
  refine k_aload_n hC (pc := 0) dX12_wordOf_0 0 rfl ?_
  refine k_iload_n hC (pc := 1) dX12_wordOf_1 1 rfl ?_
  refine k_iload_n hC (pc := 2) dX12_wordOf_2 2 rfl ?_
  refine k_iload_n hC (pc := 3) dX12_wordOf_3 3 rfl ?_
  refine k_iload hC (pc := 4) dX12_wordOf_4 4 rfl ?_
  refine k_ci (rn_V hC (pc := 6) (As := [.int x1, .int x2, .int x3, .int x4]) (rest := []) ca_X12_whyOf ml_RX12_262 im_X12_whyOf se_X12_whyOf (fx_in f6_0) (ob6_0 _ _ _ _ _) rfl rfl (ct_X12_whyOf x1 x2 x3 x4 h) (by rw [hR]; exact ⟨rfl, rfl, by decide, by decide⟩) rfl (Nat.le_of_ble_eq_true rfl) dX12_wordOf_6 ⟨by rw [hR]; decide, by rw [hR]; decide⟩) (fun r_2 s_1 h => ?_)
  refine k_istore hC (pc := 9) dX12_wordOf_9 [(5, .int r_2), (0, .ref (adr X.G a 6 0)), (1, .int x1), (2, .int x2), (3, .int x3), (4, .int x4)] (by decide) rfl ?_
  refine k_iload hC (pc := 11) dX12_wordOf_11 0 rfl ?_
  refine k_bipush hC (pc := 13) (v := (-9)) dX12_wordOf_13 bp_m9 ?_
  refine k_icmp_ne hC (pc := 15) 23 dX12_wordOf_15 (by decide) (fun c_3 => ?_) (fun c_3 => ?_)
  · have h := h.1 c_3
    refine k_aload_n hC (pc := 23) dX12_wordOf_23 1 rfl ?_
    refine gf_X12_17 hC (pc := 24)  fl_RX12_43 dX12_wordOf_24 ?_
    refine k_iload hC (pc := 27) dX12_wordOf_27 0 rfl ?_
    obtain ⟨c_4, h⟩ := h
    refine r_iald hC (pc := 29) ra5_17 c_4 dX12_wordOf_29 ?_
    exact k_iret hC (pc := 30) hQ hr dX12_wordOf_30 h
  · have h := h.2 c_3
    refine k_bipush hC (pc := 18) (v := (-9)) dX12_wordOf_18 bp_m9 ?_
    refine k_goto hC (pc := 20) 30 dX12_wordOf_20 (by decide) ?_
    exact k_iret hC (pc := 30) hQ hr dX12_wordOf_30 h
theorem ct_X12_wordOf {l : Launch} {G : Gx} {a : Ax} {s : Sx} {N : Nat} {post : Int32 → Sx → Prop} (x1 : Int32) (x2 : Int32) (x3 : Int32) (x4 : Int32) (h : w_X12_wordOf N x1 x2 x3 x4 s post) : Met l yX12_wordOf (Cond.code yX12_wordOf cX12_wordOf 6 (some .int) :: gw) { frames := 2, cells := 0, slots := 0, locals := 50 } (va_Pc [.ref (adr G a 6 0), .int x1, .int x2, .int x3, .int x4] (fun U => FU G a s U)) (Qi G a post) 0 0 (bs_ G) := met_of (plainFor_of_name (by decide)) (Nat.le_of_ble_eq_true rfl) rfl (fun X hC hl hR hQ hr hG hn => by subst hG; exact b_X12_wordOf hC hR hQ hr hn s x1 x2 x3 x4 h)
theorem ca_X12_wordOf : Ca yX12_wordOf cX12_wordOf 6 (some .int) 4 := ⟨cd_X12_wordOf, ii_RX12, by decide, by decide, by decide +kernel⟩
def w_X12_word (N : Nat) (x1 : Int32) (x2 : Int32) (x3 : Int32) (x4 : Int32) (s : Sx) (post : Int32 → Sx → Prop) : Prop := w_X12_isCamp N x1 s (fun r_2 s_1 => (r_2 = 0 → post ((-1)) s_1) ∧ (¬ (r_2 = 0) → w_X12_isOffice N x4 s_1 (fun r_5 s_4 => (¬ r_5 = 0 → w_X12_within N x2 0 23 s_4 (fun r_8 s_7 => (r_8 = 0 → post ((-2)) s_7) ∧ (¬ (r_8 = 0) → w_X12_isDay N x3 s_7 (fun r_11 s_10 => (r_11 = 0 → post ((-2)) s_10) ∧ (¬ (r_11 = 0) → w_X12_wordOf N x1 x2 x3 x4 s_10 (fun r_14 s_13 => post r_14 s_13)))))) ∧ (¬ (¬ r_5 = 0) → post ((-1)) s_4))))
set_option maxHeartbeats 4000000 in
theorem b_X12_word {X : Kx} {a : Ax} {N : Nat} {post : Int32 → Sx → Prop} (hC : Cx X cX12_word 5 RX12) (hR : X.R = { frames := 3, cells := 0, slots := 0, locals := 75 }) (hQ : X.Q = MQ X.below (Qi X.G a post) X.av X.s 0 0 (bs_ X.G)) (hr : X.meth.sig.returnType = (some .int)) (hn : X.meth.name = "word") (s : Sx) (x1 : Int32) (x2 : Int32) (x3 : Int32) (x4 : Int32) (h : w_X12_word N x1 x2 x3 x4 s post) : wk X a s 5 0 [(0, .ref (adr X.G a 6 0)), (1, .int x1), (2, .int x2), (3, .int x3), (4, .int x4)] [] 0 0 := by
  unfold w_X12_word at h
  refine k_aload_n hC (pc := 0) dX12_word_0 0 rfl ?_
  refine k_iload_n hC (pc := 1) dX12_word_1 1 rfl ?_
  refine k_ci (rn_V hC (pc := 2) (As := [.int x1]) (rest := []) ca_X12_isCamp ml_RX12_210 im_X12_isCamp se_X12_isCamp (fx_in f6_0) (ob6_0 _ _ _ _ _) rfl rfl (ct_X12_isCamp x1 h) (by rw [hR]; exact ⟨rfl, rfl, by decide, by decide⟩) rfl (Nat.le_of_ble_eq_true rfl) dX12_word_2 ⟨by rw [hR]; decide, by rw [hR]; decide⟩) (fun r_2 s_1 h => ?_)
  refine k_if_eq hC (pc := 5) 16 dX12_word_5 (by decide) (fun c_3 => ?_) (fun c_3 => ?_)
  · have h := h.1 c_3
    refine k_iconst hC (pc := 16) (v := (-1)) dX12_word_16 ic_m1 ?_
    exact k_iret hC (pc := 17) hQ hr dX12_word_17 h
  · have h := h.2 c_3
    refine k_iload hC (pc := 8) dX12_word_8 4 rfl ?_
    refine k_ci (rn_S hC (pc := 10) (As := [.int x4]) (rest := []) ca_X12_isOffice ml_RX12_259 sm_X12_isOffice (ct_X12_isOffice x4 h) (by rw [hR]; exact ⟨rfl, rfl, by decide, by decide⟩) rfl (Nat.le_of_ble_eq_true rfl) dX12_word_10 ⟨by rw [hR]; decide, by rw [hR]; decide⟩) (fun r_5 s_4 h => ?_)
    refine k_if_ne hC (pc := 13) 18 dX12_word_13 (by decide) (fun c_6 => ?_) (fun c_6 => ?_)
    · have h := h.1 c_6
      refine k_iload_n hC (pc := 18) dX12_word_18 2 rfl ?_
      refine k_iconst hC (pc := 19) (v := 0) dX12_word_19 ic_0 ?_
      refine k_bipush hC (pc := 20) (v := 23) dX12_word_20 bp_23 ?_
      refine k_ci (rn_S hC (pc := 22) (As := [.int x2, .int 0, .int 23]) (rest := []) ca_X12_within ml_RX12_186 sm_X12_within (ct_X12_within x2 0 23 h) (by rw [hR]; exact ⟨rfl, rfl, by decide, by decide⟩) rfl (Nat.le_of_ble_eq_true rfl) dX12_word_22 ⟨by rw [hR]; decide, by rw [hR]; decide⟩) (fun r_8 s_7 h => ?_)
      refine k_if_eq hC (pc := 25) 47 dX12_word_25 (by decide) (fun c_9 => ?_) (fun c_9 => ?_)
      · have h := h.1 c_9
        refine k_bipush hC (pc := 47) (v := (-2)) dX12_word_47 bp_m2 ?_
        exact k_iret hC (pc := 49) hQ hr dX12_word_49 h
      · have h := h.2 c_9
        refine k_iload_n hC (pc := 28) dX12_word_28 3 rfl ?_
        refine k_ci (rn_S hC (pc := 29) (As := [.int x3]) (rest := []) ca_X12_isDay ml_RX12_203 sm_X12_isDay (ct_X12_isDay x3 h) (by rw [hR]; exact ⟨rfl, rfl, by decide, by decide⟩) rfl (Nat.le_of_ble_eq_true rfl) dX12_word_29 ⟨by rw [hR]; decide, by rw [hR]; decide⟩) (fun r_11 s_10 h => ?_)
        refine k_if_eq hC (pc := 32) 47 dX12_word_32 (by decide) (fun c_12 => ?_) (fun c_12 => ?_)
        · have h := h.1 c_12
          refine k_bipush hC (pc := 47) (v := (-2)) dX12_word_47 bp_m2 ?_
          exact k_iret hC (pc := 49) hQ hr dX12_word_49 h
        · have h := h.2 c_12
          refine k_aload_n hC (pc := 35) dX12_word_35 0 rfl ?_
          refine k_iload_n hC (pc := 36) dX12_word_36 1 rfl ?_
          refine k_iload_n hC (pc := 37) dX12_word_37 2 rfl ?_
          refine k_iload_n hC (pc := 38) dX12_word_38 3 rfl ?_
          refine k_iload hC (pc := 39) dX12_word_39 4 rfl ?_
          refine k_ci (rn_V hC (pc := 41) (As := [.int x1, .int x2, .int x3, .int x4]) (rest := []) ca_X12_wordOf ml_RX12_265 im_X12_wordOf se_X12_wordOf (fx_in f6_0) (ob6_0 _ _ _ _ _) rfl rfl (ct_X12_wordOf x1 x2 x3 x4 h) (by rw [hR]; exact ⟨rfl, rfl, by decide, by decide⟩) rfl (Nat.le_of_ble_eq_true rfl) dX12_word_41 ⟨by rw [hR]; decide, by rw [hR]; decide⟩) (fun r_14 s_13 h => ?_)
          refine k_goto hC (pc := 44) 49 dX12_word_44 (by decide) ?_
          exact k_iret hC (pc := 49) hQ hr dX12_word_49 h
    · have h := h.2 c_6
      refine k_iconst hC (pc := 16) (v := (-1)) dX12_word_16 ic_m1 ?_
      exact k_iret hC (pc := 17) hQ hr dX12_word_17 h
theorem ct_X12_word {l : Launch} {G : Gx} {a : Ax} {s : Sx} {N : Nat} {post : Int32 → Sx → Prop} (x1 : Int32) (x2 : Int32) (x3 : Int32) (x4 : Int32) (h : w_X12_word N x1 x2 x3 x4 s post) : Met l yX12_word (Cond.code yX12_word cX12_word 5 (some .int) :: gw) { frames := 3, cells := 0, slots := 0, locals := 75 } (va_Pc [.ref (adr G a 6 0), .int x1, .int x2, .int x3, .int x4] (fun U => FU G a s U)) (Qi G a post) 0 0 (bs_ G) := met_of (plainFor_of_name (by decide)) (Nat.le_of_ble_eq_true rfl) rfl (fun X hC hl hR hQ hr hG hn => by subst hG; exact b_X12_word hC hR hQ hr hn s x1 x2 x3 x4 h)
theorem ca_X12_word : Ca yX12_word cX12_word 5 (some .int) 4 := ⟨cd_X12_word, ii_RX12, by decide, by decide, by decide +kernel⟩
def w_X12_why (N : Nat) (x1 : Int32) (x2 : Int32) (x3 : Int32) (x4 : Int32) (s : Sx) (post : Int32 → Sx → Prop) : Prop := w_X12_isCamp N x1 s (fun r_2 s_1 => (r_2 = 0 → post ((-1)) s_1) ∧ (¬ (r_2 = 0) → w_X12_isOffice N x4 s_1 (fun r_5 s_4 => (¬ r_5 = 0 → w_X12_within N x2 0 23 s_4 (fun r_8 s_7 => (r_8 = 0 → post ((-2)) s_7) ∧ (¬ (r_8 = 0) → w_X12_isDay N x3 s_7 (fun r_11 s_10 => (r_11 = 0 → post ((-2)) s_10) ∧ (¬ (r_11 = 0) → w_X12_whyOf N x1 x2 x3 x4 s_10 (fun r_14 s_13 => post r_14 s_13)))))) ∧ (¬ (¬ r_5 = 0) → post ((-1)) s_4))))
set_option maxHeartbeats 4000000 in
theorem b_X12_why {X : Kx} {a : Ax} {N : Nat} {post : Int32 → Sx → Prop} (hC : Cx X cX12_why 5 RX12) (hR : X.R = { frames := 2, cells := 0, slots := 0, locals := 50 }) (hQ : X.Q = MQ X.below (Qi X.G a post) X.av X.s 0 0 (bs_ X.G)) (hr : X.meth.sig.returnType = (some .int)) (hn : X.meth.name = "why") (s : Sx) (x1 : Int32) (x2 : Int32) (x3 : Int32) (x4 : Int32) (h : w_X12_why N x1 x2 x3 x4 s post) : wk X a s 5 0 [(0, .ref (adr X.G a 6 0)), (1, .int x1), (2, .int x2), (3, .int x3), (4, .int x4)] [] 0 0 := by
  unfold w_X12_why at h
  refine k_aload_n hC (pc := 0) dX12_why_0 0 rfl ?_
  refine k_iload_n hC (pc := 1) dX12_why_1 1 rfl ?_
  refine k_ci (rn_V hC (pc := 2) (As := [.int x1]) (rest := []) ca_X12_isCamp ml_RX12_210 im_X12_isCamp se_X12_isCamp (fx_in f6_0) (ob6_0 _ _ _ _ _) rfl rfl (ct_X12_isCamp x1 h) (by rw [hR]; exact ⟨rfl, rfl, by decide, by decide⟩) rfl (Nat.le_of_ble_eq_true rfl) dX12_why_2 ⟨by rw [hR]; decide, by rw [hR]; decide⟩) (fun r_2 s_1 h => ?_)
  refine k_if_eq hC (pc := 5) 16 dX12_why_5 (by decide) (fun c_3 => ?_) (fun c_3 => ?_)
  · have h := h.1 c_3
    refine k_iconst hC (pc := 16) (v := (-1)) dX12_why_16 ic_m1 ?_
    exact k_iret hC (pc := 17) hQ hr dX12_why_17 h
  · have h := h.2 c_3
    refine k_iload hC (pc := 8) dX12_why_8 4 rfl ?_
    refine k_ci (rn_S hC (pc := 10) (As := [.int x4]) (rest := []) ca_X12_isOffice ml_RX12_259 sm_X12_isOffice (ct_X12_isOffice x4 h) (by rw [hR]; exact ⟨rfl, rfl, by decide, by decide⟩) rfl (Nat.le_of_ble_eq_true rfl) dX12_why_10 ⟨by rw [hR]; decide, by rw [hR]; decide⟩) (fun r_5 s_4 h => ?_)
    refine k_if_ne hC (pc := 13) 18 dX12_why_13 (by decide) (fun c_6 => ?_) (fun c_6 => ?_)
    · have h := h.1 c_6
      refine k_iload_n hC (pc := 18) dX12_why_18 2 rfl ?_
      refine k_iconst hC (pc := 19) (v := 0) dX12_why_19 ic_0 ?_
      refine k_bipush hC (pc := 20) (v := 23) dX12_why_20 bp_23 ?_
      refine k_ci (rn_S hC (pc := 22) (As := [.int x2, .int 0, .int 23]) (rest := []) ca_X12_within ml_RX12_186 sm_X12_within (ct_X12_within x2 0 23 h) (by rw [hR]; exact ⟨rfl, rfl, by decide, by decide⟩) rfl (Nat.le_of_ble_eq_true rfl) dX12_why_22 ⟨by rw [hR]; decide, by rw [hR]; decide⟩) (fun r_8 s_7 h => ?_)
      refine k_if_eq hC (pc := 25) 47 dX12_why_25 (by decide) (fun c_9 => ?_) (fun c_9 => ?_)
      · have h := h.1 c_9
        refine k_bipush hC (pc := 47) (v := (-2)) dX12_why_47 bp_m2 ?_
        exact k_iret hC (pc := 49) hQ hr dX12_why_49 h
      · have h := h.2 c_9
        refine k_iload_n hC (pc := 28) dX12_why_28 3 rfl ?_
        refine k_ci (rn_S hC (pc := 29) (As := [.int x3]) (rest := []) ca_X12_isDay ml_RX12_203 sm_X12_isDay (ct_X12_isDay x3 h) (by rw [hR]; exact ⟨rfl, rfl, by decide, by decide⟩) rfl (Nat.le_of_ble_eq_true rfl) dX12_why_29 ⟨by rw [hR]; decide, by rw [hR]; decide⟩) (fun r_11 s_10 h => ?_)
        refine k_if_eq hC (pc := 32) 47 dX12_why_32 (by decide) (fun c_12 => ?_) (fun c_12 => ?_)
        · have h := h.1 c_12
          refine k_bipush hC (pc := 47) (v := (-2)) dX12_why_47 bp_m2 ?_
          exact k_iret hC (pc := 49) hQ hr dX12_why_49 h
        · have h := h.2 c_12
          refine k_aload_n hC (pc := 35) dX12_why_35 0 rfl ?_
          refine k_iload_n hC (pc := 36) dX12_why_36 1 rfl ?_
          refine k_iload_n hC (pc := 37) dX12_why_37 2 rfl ?_
          refine k_iload_n hC (pc := 38) dX12_why_38 3 rfl ?_
          refine k_iload hC (pc := 39) dX12_why_39 4 rfl ?_
          refine k_ci (rn_V hC (pc := 41) (As := [.int x1, .int x2, .int x3, .int x4]) (rest := []) ca_X12_whyOf ml_RX12_262 im_X12_whyOf se_X12_whyOf (fx_in f6_0) (ob6_0 _ _ _ _ _) rfl rfl (ct_X12_whyOf x1 x2 x3 x4 h) (by rw [hR]; exact ⟨rfl, rfl, by decide, by decide⟩) rfl (Nat.le_of_ble_eq_true rfl) dX12_why_41 ⟨by rw [hR]; decide, by rw [hR]; decide⟩) (fun r_14 s_13 h => ?_)
          refine k_goto hC (pc := 44) 49 dX12_why_44 (by decide) ?_
          exact k_iret hC (pc := 49) hQ hr dX12_why_49 h
    · have h := h.2 c_6
      refine k_iconst hC (pc := 16) (v := (-1)) dX12_why_16 ic_m1 ?_
      exact k_iret hC (pc := 17) hQ hr dX12_why_17 h
theorem ct_X12_why {l : Launch} {G : Gx} {a : Ax} {s : Sx} {N : Nat} {post : Int32 → Sx → Prop} (x1 : Int32) (x2 : Int32) (x3 : Int32) (x4 : Int32) (h : w_X12_why N x1 x2 x3 x4 s post) : Met l yX12_why (Cond.code yX12_why cX12_why 5 (some .int) :: gw) { frames := 2, cells := 0, slots := 0, locals := 50 } (va_Pc [.ref (adr G a 6 0), .int x1, .int x2, .int x3, .int x4] (fun U => FU G a s U)) (Qi G a post) 0 0 (bs_ G) := met_of (plainFor_of_name (by decide)) (Nat.le_of_ble_eq_true rfl) rfl (fun X hC hl hR hQ hr hG hn => by subst hG; exact b_X12_why hC hR hQ hr hn s x1 x2 x3 x4 h)
theorem ca_X12_why : Ca yX12_why cX12_why 5 (some .int) 4 := ⟨cd_X12_why, ii_RX12, by decide, by decide, by decide +kernel⟩
def w_X12_quarrel_38 (N : Nat) (post : Int32 → Sx → Prop) (K25 : Sx → Int32 → Int32 → Int32 → Int32 → Prop) : Nat → Sx → Int32 → Int32 → Int32 → Int32 → Int32 → Int32 → Prop
  | 0, _, _, _, _, _, _, _ => False
  | n + 1, s, x1, x2, x3, x4, x5, x6 => (5 ≤ x6 → (x5 ≤ 1 → ∀ x_10 : Int32, x_10 = x3 ||| 0 → ∀ x_11 : Int32, x_11 = x4 + 1 → K25 s x1 x2 x_10 x_11) ∧ (¬ (x5 ≤ 1) → ∀ x_12 : Int32, x_12 = x3 ||| (1 <<< (x4 &&& 31)) → ∀ x_13 : Int32, x_13 = x4 + 1 → K25 s x1 x2 x_12 x_13)) ∧ (¬ (5 ≤ x6) → w_X12_wordOf N x1 x4 x2 x6 s (fun r_15 s_14 => (¬ r_15 = x6 → ∀ x_17 : Int32, x_17 = x5 + 0 → ∀ x_18 : Int32, x_18 = x6 + 1 → w_X12_quarrel_38 N post K25 n s_14 x1 x2 x3 x4 x_17 x_18) ∧ (¬ (¬ r_15 = x6) → ∀ x_19 : Int32, x_19 = x5 + 1 → ∀ x_20 : Int32, x_20 = x6 + 1 → w_X12_quarrel_38 N post K25 n s_14 x1 x2 x3 x4 x_19 x_20)))
def w_X12_quarrel_25 (N : Nat) (post : Int32 → Sx → Prop) : Nat → Sx → Int32 → Int32 → Int32 → Int32 → Prop
  | 0, _, _, _, _, _ => False
  | n + 1, s, x1, x2, x3, x4 => (24 ≤ x4 → post x3 s) ∧ (¬ (24 ≤ x4) → w_X12_quarrel_38 N post (w_X12_quarrel_25 N post n) N s x1 x2 x3 x4 0 0)
def w_X12_quarrel (N : Nat) (x1 : Int32) (x2 : Int32) (s : Sx) (post : Int32 → Sx → Prop) : Prop := w_X12_isCamp N x1 s (fun r_2 s_1 => (¬ r_2 = 0 → w_X12_isDay N x2 s_1 (fun r_5 s_4 => (¬ r_5 = 0 → w_X12_quarrel_25 N post N s_4 x1 x2 0 0) ∧ (¬ (¬ r_5 = 0) → post ((-2)) s_4))) ∧ (¬ (¬ r_2 = 0) → post ((-1)) s_1))
set_option maxHeartbeats 4000000 in
theorem b_X12_quarrel_38 {X : Kx} {a : Ax} {N : Nat} {post : Int32 → Sx → Prop} {K25 : Sx → Int32 → Int32 → Int32 → Int32 → Prop}  (hC : Cx X cX12_quarrel 7 RX12) (hR : X.R = { frames := 3, cells := 0, slots := 0, locals := 75 }) (hQ : X.Q = MQ X.below (Qi X.G a post) X.av X.s 0 0 (bs_ X.G)) (hr : X.meth.sig.returnType = (some .int))  (hK25 : ∀ (s : Sx) (x1 : Int32) (x2 : Int32) (x3 : Int32) (x4 : Int32), K25 s x1 x2 x3 x4 → wk X a s 7 25 [(0, .ref (adr X.G a 6 0)), (1, .int x1), (2, .int x2), (3, .int x3), (4, .int x4)] [] 0 0) : ∀ (n : Nat) (s : Sx) (x1 : Int32) (x2 : Int32) (x3 : Int32) (x4 : Int32) (x5 : Int32) (x6 : Int32), w_X12_quarrel_38 N post K25 n s x1 x2 x3 x4 x5 x6 → wk X a s 7 38 [(0, .ref (adr X.G a 6 0)), (1, .int x1), (2, .int x2), (3, .int x3), (4, .int x4), (5, .int x5), (6, .int x6)] [] 0 0 := by
  intro n
  induction n with
  | zero => intro s x1 x2 x3 x4 x5 x6 h; exact h.elim
  | succ n ih =>
    intro s x1 x2 x3 x4 x5 x6 h
    unfold w_X12_quarrel_38 at h
    refine k_iload hC (pc := 38) dX12_quarrel_38 6 rfl ?_
    refine k_iconst hC (pc := 40) (v := 5) dX12_quarrel_40 ic_5 ?_
    refine k_icmp_ge hC (pc := 41) 75 dX12_quarrel_41 (by decide) (fun c_8 => ?_) (fun c_8 => ?_)
    · have h := h.1 c_8
      refine k_iload_n hC (pc := 75) dX12_quarrel_75 3 rfl ?_
      refine k_iload hC (pc := 76) dX12_quarrel_76 5 rfl ?_
      refine k_iconst hC (pc := 78) (v := 1) dX12_quarrel_78 ic_1 ?_
      refine k_icmp_le hC (pc := 79) 89 dX12_quarrel_79 (by decide) (fun c_9 => ?_) (fun c_9 => ?_)
      · have h := h.1 c_9
        refine k_iconst hC (pc := 89) (v := 0) dX12_quarrel_89 ic_0 ?_
        refine k_ior hC (pc := 90) dX12_quarrel_90 ?_
        refine k_topi (fun x_10 h_x_10 => ?_)
        have h := h x_10 h_x_10
        refine k_istore_n hC (pc := 91) dX12_quarrel_91 [(3, .int x_10), (0, .ref (adr X.G a 6 0)), (1, .int x1), (2, .int x2), (4, .int x4), (5, .int x5), (6, .int x6)] (by decide) rfl ?_
        obtain ⟨x_11, h_x_11⟩ : ∃ z : Int32, z = x4 + 1 := ⟨_, rfl⟩
        have h := h x_11 h_x_11
        refine k_iincw hC (pc := 92) dX12_quarrel_92 4 rfl ic_1 h_x_11.symm [(4, .int x_11), (3, .int x_10), (0, .ref (adr X.G a 6 0)), (1, .int x1), (2, .int x2), (5, .int x5), (6, .int x6)] (by decide) rfl ?_
        refine k_goto hC (pc := 95) 25 dX12_quarrel_95 (by decide) ?_
        refine k_sub [(0, .ref (adr X.G a 6 0)), (1, .int x1), (2, .int x2), (3, .int x_10), (4, .int x_11)] [2, 3, 4, 1, 0] rfl ?_
        exact hK25 _ _ _ _ _ h
      · have h := h.2 c_9
        refine k_iconst hC (pc := 82) (v := 1) dX12_quarrel_82 ic_1 ?_
        refine k_iload hC (pc := 83) dX12_quarrel_83 4 rfl ?_
        refine k_ishl hC (pc := 85) dX12_quarrel_85 ?_
        refine k_goto hC (pc := 86) 90 dX12_quarrel_86 (by decide) ?_
        refine k_ior hC (pc := 90) dX12_quarrel_90 ?_
        refine k_topi (fun x_12 h_x_12 => ?_)
        have h := h x_12 h_x_12
        refine k_istore_n hC (pc := 91) dX12_quarrel_91 [(3, .int x_12), (0, .ref (adr X.G a 6 0)), (1, .int x1), (2, .int x2), (4, .int x4), (5, .int x5), (6, .int x6)] (by decide) rfl ?_
        obtain ⟨x_13, h_x_13⟩ : ∃ z : Int32, z = x4 + 1 := ⟨_, rfl⟩
        have h := h x_13 h_x_13
        refine k_iincw hC (pc := 92) dX12_quarrel_92 4 rfl ic_1 h_x_13.symm [(4, .int x_13), (3, .int x_12), (0, .ref (adr X.G a 6 0)), (1, .int x1), (2, .int x2), (5, .int x5), (6, .int x6)] (by decide) rfl ?_
        refine k_goto hC (pc := 95) 25 dX12_quarrel_95 (by decide) ?_
        refine k_sub [(0, .ref (adr X.G a 6 0)), (1, .int x1), (2, .int x2), (3, .int x_12), (4, .int x_13)] [2, 3, 4, 1, 0] rfl ?_
        exact hK25 _ _ _ _ _ h
    · have h := h.2 c_8
      refine k_iload hC (pc := 44) dX12_quarrel_44 5 rfl ?_
      refine k_aload_n hC (pc := 46) dX12_quarrel_46 0 rfl ?_
      refine k_iload_n hC (pc := 47) dX12_quarrel_47 1 rfl ?_
      refine k_iload hC (pc := 48) dX12_quarrel_48 4 rfl ?_
      refine k_iload_n hC (pc := 50) dX12_quarrel_50 2 rfl ?_
      refine k_iload hC (pc := 51) dX12_quarrel_51 6 rfl ?_
      refine k_ci (rn_V hC (pc := 53) (As := [.int x1, .int x4, .int x2, .int x6]) (rest := [.int x5]) ca_X12_wordOf ml_RX12_265 im_X12_wordOf se_X12_wordOf (fx_in f6_0) (ob6_0 _ _ _ _ _) rfl rfl (ct_X12_wordOf x1 x4 x2 x6 h) (by rw [hR]; exact ⟨rfl, rfl, by decide, by decide⟩) rfl (Nat.le_of_ble_eq_true rfl) dX12_quarrel_53 ⟨by rw [hR]; decide, by rw [hR]; decide⟩) (fun r_15 s_14 h => ?_)
      refine k_iload hC (pc := 56) dX12_quarrel_56 6 rfl ?_
      refine k_icmp_ne hC (pc := 58) 65 dX12_quarrel_58 (by decide) (fun c_16 => ?_) (fun c_16 => ?_)
      · have h := h.1 c_16
        refine k_iconst hC (pc := 65) (v := 0) dX12_quarrel_65 ic_0 ?_
        refine k_iadd hC (pc := 66) dX12_quarrel_66 ?_
        refine k_topi (fun x_17 h_x_17 => ?_)
        have h := h x_17 h_x_17
        refine k_istore hC (pc := 67) dX12_quarrel_67 [(5, .int x_17), (0, .ref (adr X.G a 6 0)), (1, .int x1), (2, .int x2), (3, .int x3), (4, .int x4), (6, .int x6)] (by decide) rfl ?_
        obtain ⟨x_18, h_x_18⟩ : ∃ z : Int32, z = x6 + 1 := ⟨_, rfl⟩
        have h := h x_18 h_x_18
        refine k_iincw hC (pc := 69) dX12_quarrel_69 6 rfl ic_1 h_x_18.symm [(6, .int x_18), (5, .int x_17), (0, .ref (adr X.G a 6 0)), (1, .int x1), (2, .int x2), (3, .int x3), (4, .int x4)] (by decide) rfl ?_
        refine k_goto hC (pc := 72) 38 dX12_quarrel_72 (by decide) ?_
        refine k_sub [(0, .ref (adr X.G a 6 0)), (1, .int x1), (2, .int x2), (3, .int x3), (4, .int x4), (5, .int x_17), (6, .int x_18)] [2, 3, 4, 5, 6, 1, 0] rfl ?_
        exact ih _ _ _ _ _ _ _ h
      · have h := h.2 c_16
        refine k_iconst hC (pc := 61) (v := 1) dX12_quarrel_61 ic_1 ?_
        refine k_goto hC (pc := 62) 66 dX12_quarrel_62 (by decide) ?_
        refine k_iadd hC (pc := 66) dX12_quarrel_66 ?_
        refine k_topi (fun x_19 h_x_19 => ?_)
        have h := h x_19 h_x_19
        refine k_istore hC (pc := 67) dX12_quarrel_67 [(5, .int x_19), (0, .ref (adr X.G a 6 0)), (1, .int x1), (2, .int x2), (3, .int x3), (4, .int x4), (6, .int x6)] (by decide) rfl ?_
        obtain ⟨x_20, h_x_20⟩ : ∃ z : Int32, z = x6 + 1 := ⟨_, rfl⟩
        have h := h x_20 h_x_20
        refine k_iincw hC (pc := 69) dX12_quarrel_69 6 rfl ic_1 h_x_20.symm [(6, .int x_20), (5, .int x_19), (0, .ref (adr X.G a 6 0)), (1, .int x1), (2, .int x2), (3, .int x3), (4, .int x4)] (by decide) rfl ?_
        refine k_goto hC (pc := 72) 38 dX12_quarrel_72 (by decide) ?_
        refine k_sub [(0, .ref (adr X.G a 6 0)), (1, .int x1), (2, .int x2), (3, .int x3), (4, .int x4), (5, .int x_19), (6, .int x_20)] [2, 3, 4, 5, 6, 1, 0] rfl ?_
        exact ih _ _ _ _ _ _ _ h
set_option maxHeartbeats 4000000 in
theorem b_X12_quarrel_25 {X : Kx} {a : Ax} {N : Nat} {post : Int32 → Sx → Prop}  (hC : Cx X cX12_quarrel 7 RX12) (hR : X.R = { frames := 3, cells := 0, slots := 0, locals := 75 }) (hQ : X.Q = MQ X.below (Qi X.G a post) X.av X.s 0 0 (bs_ X.G)) (hr : X.meth.sig.returnType = (some .int))   : ∀ (n : Nat) (s : Sx) (x1 : Int32) (x2 : Int32) (x3 : Int32) (x4 : Int32), w_X12_quarrel_25 N post  n s x1 x2 x3 x4 → wk X a s 7 25 [(0, .ref (adr X.G a 6 0)), (1, .int x1), (2, .int x2), (3, .int x3), (4, .int x4)] [] 0 0 := by
  intro n
  induction n with
  | zero => intro s x1 x2 x3 x4 h; exact h.elim
  | succ n ih =>
    intro s x1 x2 x3 x4 h
    unfold w_X12_quarrel_25 at h
    refine k_iload hC (pc := 25) dX12_quarrel_25 4 rfl ?_
    refine k_bipush hC (pc := 27) (v := 24) dX12_quarrel_27 bp_24 ?_
    refine k_icmp_ge hC (pc := 29) 98 dX12_quarrel_29 (by decide) (fun c_7 => ?_) (fun c_7 => ?_)
    · have h := h.1 c_7
      refine k_iload_n hC (pc := 98) dX12_quarrel_98 3 rfl ?_
      exact k_iret hC (pc := 99) hQ hr dX12_quarrel_99 h
    · have h := h.2 c_7
      refine k_iconst hC (pc := 32) (v := 0) dX12_quarrel_32 ic_0 ?_
      refine k_istore hC (pc := 33) dX12_quarrel_33 [(5, .int 0), (0, .ref (adr X.G a 6 0)), (1, .int x1), (2, .int x2), (3, .int x3), (4, .int x4)] (by decide) rfl ?_
      refine k_iconst hC (pc := 35) (v := 0) dX12_quarrel_35 ic_0 ?_
      refine k_istore hC (pc := 36) dX12_quarrel_36 [(6, .int 0), (5, .int 0), (0, .ref (adr X.G a 6 0)), (1, .int x1), (2, .int x2), (3, .int x3), (4, .int x4)] (by decide) rfl ?_
      refine k_sub [(0, .ref (adr X.G a 6 0)), (1, .int x1), (2, .int x2), (3, .int x3), (4, .int x4), (5, .int 0), (6, .int 0)] [2, 3, 4, 5, 6, 1, 0] rfl ?_
      exact b_X12_quarrel_38 hC hR hQ hr ih N _ _ _ _ _ _ _ h
set_option maxHeartbeats 4000000 in
theorem b_X12_quarrel {X : Kx} {a : Ax} {N : Nat} {post : Int32 → Sx → Prop} (hC : Cx X cX12_quarrel 7 RX12) (hR : X.R = { frames := 3, cells := 0, slots := 0, locals := 75 }) (hQ : X.Q = MQ X.below (Qi X.G a post) X.av X.s 0 0 (bs_ X.G)) (hr : X.meth.sig.returnType = (some .int)) (hn : X.meth.name = "quarrel") (s : Sx) (x1 : Int32) (x2 : Int32) (h : w_X12_quarrel N x1 x2 s post) : wk X a s 7 0 [(0, .ref (adr X.G a 6 0)), (1, .int x1), (2, .int x2)] [] 0 0 := by
  unfold w_X12_quarrel at h
  refine k_aload_n hC (pc := 0) dX12_quarrel_0 0 rfl ?_
  refine k_iload_n hC (pc := 1) dX12_quarrel_1 1 rfl ?_
  refine k_ci (rn_V hC (pc := 2) (As := [.int x1]) (rest := []) ca_X12_isCamp ml_RX12_210 im_X12_isCamp se_X12_isCamp (fx_in f6_0) (ob6_0 _ _ _ _ _) rfl rfl (ct_X12_isCamp x1 h) (by rw [hR]; exact ⟨rfl, rfl, by decide, by decide⟩) rfl (Nat.le_of_ble_eq_true rfl) dX12_quarrel_2 ⟨by rw [hR]; decide, by rw [hR]; decide⟩) (fun r_2 s_1 h => ?_)
  refine k_if_ne hC (pc := 5) 10 dX12_quarrel_5 (by decide) (fun c_3 => ?_) (fun c_3 => ?_)
  · have h := h.1 c_3
    refine k_iload_n hC (pc := 10) dX12_quarrel_10 2 rfl ?_
    refine k_ci (rn_S hC (pc := 11) (As := [.int x2]) (rest := []) ca_X12_isDay ml_RX12_203 sm_X12_isDay (ct_X12_isDay x2 h) (by rw [hR]; exact ⟨rfl, rfl, by decide, by decide⟩) rfl (Nat.le_of_ble_eq_true rfl) dX12_quarrel_11 ⟨by rw [hR]; decide, by rw [hR]; decide⟩) (fun r_5 s_4 h => ?_)
    refine k_if_ne hC (pc := 14) 20 dX12_quarrel_14 (by decide) (fun c_6 => ?_) (fun c_6 => ?_)
    · have h := h.1 c_6
      refine k_iconst hC (pc := 20) (v := 0) dX12_quarrel_20 ic_0 ?_
      refine k_istore_n hC (pc := 21) dX12_quarrel_21 [(3, .int 0), (0, .ref (adr X.G a 6 0)), (1, .int x1), (2, .int x2)] (by decide) rfl ?_
      refine k_iconst hC (pc := 22) (v := 0) dX12_quarrel_22 ic_0 ?_
      refine k_istore hC (pc := 23) dX12_quarrel_23 [(4, .int 0), (3, .int 0), (0, .ref (adr X.G a 6 0)), (1, .int x1), (2, .int x2)] (by decide) rfl ?_
      refine k_sub [(0, .ref (adr X.G a 6 0)), (1, .int x1), (2, .int x2), (3, .int 0), (4, .int 0)] [2, 3, 4, 1, 0] rfl ?_
      exact b_X12_quarrel_25 hC hR hQ hr N _ _ _ _ _ h
    · have h := h.2 c_6
      refine k_bipush hC (pc := 17) (v := (-2)) dX12_quarrel_17 bp_m2 ?_
      exact k_iret hC (pc := 19) hQ hr dX12_quarrel_19 h
  · have h := h.2 c_3
    refine k_iconst hC (pc := 8) (v := (-1)) dX12_quarrel_8 ic_m1 ?_
    exact k_iret hC (pc := 9) hQ hr dX12_quarrel_9 h
theorem ct_X12_quarrel {l : Launch} {G : Gx} {a : Ax} {s : Sx} {N : Nat} {post : Int32 → Sx → Prop} (x1 : Int32) (x2 : Int32) (h : w_X12_quarrel N x1 x2 s post) : Met l yX12_quarrel (Cond.code yX12_quarrel cX12_quarrel 7 (some .int) :: gw) { frames := 3, cells := 0, slots := 0, locals := 75 } (va_Pc [.ref (adr G a 6 0), .int x1, .int x2] (fun U => FU G a s U)) (Qi G a post) 0 0 (bs_ G) := met_of (plainFor_of_name (by decide)) (Nat.le_of_ble_eq_true rfl) rfl (fun X hC hl hR hQ hr hG hn => by subst hG; exact b_X12_quarrel hC hR hQ hr hn s x1 x2 h)
theorem ca_X12_quarrel : Ca yX12_quarrel cX12_quarrel 7 (some .int) 2 := ⟨cd_X12_quarrel, ii_RX12, by decide, by decide, by decide +kernel⟩
def w_X12_rate (N : Nat) (x1 : Int32) (x2 : Int32) (s : Sx) (post : Int32 → Sx → Prop) : Prop := w_X12_within N x1 0 2 s (fun r_2 s_1 => (r_2 = 0 → post ((-2)) s_1) ∧ (¬ (r_2 = 0) → w_X12_within N x2 0 999 s_1 (fun r_5 s_4 => (¬ r_5 = 0 → vp_in x1 3 ∧ ∀ x_8 : Int32, x_8 = s_4.1 5 28 x1.toNatClampNeg → vp_in x1 3 ∧ ∀ s_10, s_10 = setI s_4 5 28 x1.toNatClampNeg x2 → post x_8 s_10) ∧ (¬ (¬ r_5 = 0) → post ((-2)) s_4))))
set_option maxHeartbeats 4000000 in
theorem b_X12_rate {X : Kx} {a : Ax} {N : Nat} {post : Int32 → Sx → Prop} (hC : Cx X cX12_rate 4 RX12) (hR : X.R = { frames := 1, cells := 0, slots := 0, locals := 22 }) (hQ : X.Q = MQ X.below (Qi X.G a post) X.av X.s 0 0 (bs_ X.G)) (hr : X.meth.sig.returnType = (some .int)) (hn : X.meth.name = "rate") (s : Sx) (x1 : Int32) (x2 : Int32) (h : w_X12_rate N x1 x2 s post) : wk X a s 4 0 [(0, .ref (adr X.G a 6 0)), (1, .int x1), (2, .int x2)] [] 0 0 := by
  unfold w_X12_rate at h
  refine k_iload_n hC (pc := 0) dX12_rate_0 1 rfl ?_
  refine k_iconst hC (pc := 1) (v := 0) dX12_rate_1 ic_0 ?_
  refine k_iconst hC (pc := 2) (v := 2) dX12_rate_2 ic_2 ?_
  refine k_ci (rn_S hC (pc := 3) (As := [.int x1, .int 0, .int 2]) (rest := []) ca_X12_within ml_RX12_186 sm_X12_within (ct_X12_within x1 0 2 h) (by rw [hR]; exact ⟨rfl, rfl, by decide, by decide⟩) rfl (Nat.le_of_ble_eq_true rfl) dX12_rate_3 ⟨by rw [hR]; decide, by rw [hR]; decide⟩) (fun r_2 s_1 h => ?_)
  refine k_if_eq hC (pc := 6) 20 dX12_rate_6 (by decide) (fun c_3 => ?_) (fun c_3 => ?_)
  · have h := h.1 c_3
    refine k_bipush hC (pc := 20) (v := (-2)) dX12_rate_20 bp_m2 ?_
    exact k_iret hC (pc := 22) hQ hr dX12_rate_22 h
  · have h := h.2 c_3
    refine k_iload_n hC (pc := 9) dX12_rate_9 2 rfl ?_
    refine k_iconst hC (pc := 10) (v := 0) dX12_rate_10 ic_0 ?_
    refine k_sipush hC (pc := 11) (v := 999) dX12_rate_11 sp_999 ?_
    refine k_ci (rn_S hC (pc := 14) (As := [.int x2, .int 0, .int 999]) (rest := []) ca_X12_within ml_RX12_186 sm_X12_within (ct_X12_within x2 0 999 h) (by rw [hR]; exact ⟨rfl, rfl, by decide, by decide⟩) rfl (Nat.le_of_ble_eq_true rfl) dX12_rate_14 ⟨by rw [hR]; decide, by rw [hR]; decide⟩) (fun r_5 s_4 h => ?_)
    refine k_if_ne hC (pc := 17) 23 dX12_rate_17 (by decide) (fun c_6 => ?_) (fun c_6 => ?_)
    · have h := h.1 c_6
      refine k_aload_n hC (pc := 23) dX12_rate_23 0 rfl ?_
      refine gf_X12_28 hC (pc := 24)  fl_RX12_67 dX12_rate_24 ?_
      refine k_iload_n hC (pc := 27) dX12_rate_27 1 rfl ?_
      obtain ⟨c_7, h⟩ := h
      refine r_iald hC (pc := 28) ra5_28 c_7 dX12_rate_28 ?_
      refine k_topi (fun x_8 h_x_8 => ?_)
      have h := h x_8 h_x_8
      refine k_istore_n hC (pc := 29) dX12_rate_29 [(3, .int x_8), (0, .ref (adr X.G a 6 0)), (1, .int x1), (2, .int x2)] (by decide) rfl ?_
      refine k_aload_n hC (pc := 30) dX12_rate_30 1 rfl ?_
      refine gf_X12_28 hC (pc := 31)  fl_RX12_67 dX12_rate_31 ?_
      refine k_iload_n hC (pc := 34) dX12_rate_34 2 rfl ?_
      refine k_iload_n hC (pc := 35) dX12_rate_35 3 rfl ?_
      obtain ⟨c_9, h⟩ := h
      refine r_iast hC (pc := 36) ra5_28 c_9 dX12_rate_36 (fun s_10 h_s_10 => ?_)
      have h := h s_10 h_s_10
      refine k_iload_n hC (pc := 37) dX12_rate_37 0 rfl ?_
      exact k_iret hC (pc := 38) hQ hr dX12_rate_38 h
    · have h := h.2 c_6
      refine k_bipush hC (pc := 20) (v := (-2)) dX12_rate_20 bp_m2 ?_
      exact k_iret hC (pc := 22) hQ hr dX12_rate_22 h
theorem ct_X12_rate {l : Launch} {G : Gx} {a : Ax} {s : Sx} {N : Nat} {post : Int32 → Sx → Prop} (x1 : Int32) (x2 : Int32) (h : w_X12_rate N x1 x2 s post) : Met l yX12_rate (Cond.code yX12_rate cX12_rate 4 (some .int) :: gw) { frames := 1, cells := 0, slots := 0, locals := 22 } (va_Pc [.ref (adr G a 6 0), .int x1, .int x2] (fun U => FU G a s U)) (Qi G a post) 0 0 (bs_ G) := met_of (plainFor_of_name (by decide)) (Nat.le_of_ble_eq_true rfl) rfl (fun X hC hl hR hQ hr hG hn => by subst hG; exact b_X12_rate hC hR hQ hr hn s x1 x2 h)
theorem ca_X12_rate : Ca yX12_rate cX12_rate 4 (some .int) 2 := ⟨cd_X12_rate, ii_RX12, by decide, by decide, by decide +kernel⟩
def w_X12_home_43 (N : Nat) (post : Int32 → Sx → Prop) (s : Sx) (x1 : Int32) (x2 : Int32) (z0 : Int32) : Prop := ∀ s_8, s_8 = setI s 6 0 29 x1 → ∀ s_9, s_9 = setI s_8 6 0 30 x2 → post z0 s_9
def w_X12_home_42 (N : Nat) (post : Int32 → Sx → Prop) (s : Sx) (x1 : Int32) (x2 : Int32) : Prop := w_X12_home_43 N post s x1 x2 1
def w_X12_home (N : Nat) (x1 : Int32) (x2 : Int32) (s : Sx) (post : Int32 → Sx → Prop) : Prop := w_X12_within N x2 1 100 s (fun r_2 s_1 => (r_2 = 0 → post ((-2)) s_1) ∧ (¬ (r_2 = 0) → w_X12_within N x1 0 x2 s_1 (fun r_5 s_4 => (¬ r_5 = 0 → (¬ (s_4.1 6 0 29) = x1 → w_X12_home_42 N post s_4 x1 x2) ∧ (¬ (¬ (s_4.1 6 0 29) = x1) → (¬ (s_4.1 6 0 30) = x2 → w_X12_home_42 N post s_4 x1 x2) ∧ (¬ (¬ (s_4.1 6 0 30) = x2) → w_X12_home_43 N post s_4 x1 x2 0))) ∧ (¬ (¬ r_5 = 0) → post ((-2)) s_4))))
set_option maxHeartbeats 4000000 in
theorem b_X12_home_43 {X : Kx} {a : Ax} {N : Nat} {post : Int32 → Sx → Prop}  (hC : Cx X cX12_home 4 RX12) (hR : X.R = { frames := 1, cells := 0, slots := 0, locals := 22 }) (hQ : X.Q = MQ X.below (Qi X.G a post) X.av X.s 0 0 (bs_ X.G)) (hr : X.meth.sig.returnType = (some .int))   (s : Sx) (x1 : Int32) (x2 : Int32) (z0 : Int32) (h : w_X12_home_43 N post  s x1 x2 z0) : wk X a s 4 43 [(0, .ref (adr X.G a 6 0)), (1, .int x1), (2, .int x2)] [.int z0] 0 0 := by
  unfold w_X12_home_43 at h
  refine k_istore_n hC (pc := 43) dX12_home_43 [(3, .int z0), (0, .ref (adr X.G a 6 0)), (1, .int x1), (2, .int x2)] (by decide) rfl ?_
  refine k_aload_n hC (pc := 44) dX12_home_44 1 rfl ?_
  refine k_iload_n hC (pc := 45) dX12_home_45 2 rfl ?_
  refine pf_X12_29 hC (pc := 46)  fl_RX12_70 dX12_home_46 (fun s_8 h_s_8 => ?_)
  have h := h s_8 h_s_8
  refine k_aload_n hC (pc := 49) dX12_home_49 1 rfl ?_
  refine k_iload_n hC (pc := 50) dX12_home_50 3 rfl ?_
  refine pf_X12_30 hC (pc := 51)  fl_RX12_74 dX12_home_51 (fun s_9 h_s_9 => ?_)
  have h := h s_9 h_s_9
  refine k_iload_n hC (pc := 54) dX12_home_54 0 rfl ?_
  exact k_iret hC (pc := 55) hQ hr dX12_home_55 h
set_option maxHeartbeats 4000000 in
theorem b_X12_home_42 {X : Kx} {a : Ax} {N : Nat} {post : Int32 → Sx → Prop}  (hC : Cx X cX12_home 4 RX12) (hR : X.R = { frames := 1, cells := 0, slots := 0, locals := 22 }) (hQ : X.Q = MQ X.below (Qi X.G a post) X.av X.s 0 0 (bs_ X.G)) (hr : X.meth.sig.returnType = (some .int))   (s : Sx) (x1 : Int32) (x2 : Int32) (h : w_X12_home_42 N post  s x1 x2) : wk X a s 4 42 [(0, .ref (adr X.G a 6 0)), (1, .int x1), (2, .int x2)] [] 0 0 := by
  unfold w_X12_home_42 at h
  refine k_iconst hC (pc := 42) (v := 1) dX12_home_42 ic_1 ?_
  exact b_X12_home_43 hC hR hQ hr _ _ _ _ h
set_option maxHeartbeats 4000000 in
theorem b_X12_home {X : Kx} {a : Ax} {N : Nat} {post : Int32 → Sx → Prop} (hC : Cx X cX12_home 4 RX12) (hR : X.R = { frames := 1, cells := 0, slots := 0, locals := 22 }) (hQ : X.Q = MQ X.below (Qi X.G a post) X.av X.s 0 0 (bs_ X.G)) (hr : X.meth.sig.returnType = (some .int)) (hn : X.meth.name = "home") (s : Sx) (x1 : Int32) (x2 : Int32) (h : w_X12_home N x1 x2 s post) : wk X a s 4 0 [(0, .ref (adr X.G a 6 0)), (1, .int x1), (2, .int x2)] [] 0 0 := by
  unfold w_X12_home at h
  refine k_iload_n hC (pc := 0) dX12_home_0 2 rfl ?_
  refine k_iconst hC (pc := 1) (v := 1) dX12_home_1 ic_1 ?_
  refine k_bipush hC (pc := 2) (v := 100) dX12_home_2 bp_100 ?_
  refine k_ci (rn_S hC (pc := 4) (As := [.int x2, .int 1, .int 100]) (rest := []) ca_X12_within ml_RX12_186 sm_X12_within (ct_X12_within x2 1 100 h) (by rw [hR]; exact ⟨rfl, rfl, by decide, by decide⟩) rfl (Nat.le_of_ble_eq_true rfl) dX12_home_4 ⟨by rw [hR]; decide, by rw [hR]; decide⟩) (fun r_2 s_1 h => ?_)
  refine k_if_eq hC (pc := 7) 19 dX12_home_7 (by decide) (fun c_3 => ?_) (fun c_3 => ?_)
  · have h := h.1 c_3
    refine k_bipush hC (pc := 19) (v := (-2)) dX12_home_19 bp_m2 ?_
    exact k_iret hC (pc := 21) hQ hr dX12_home_21 h
  · have h := h.2 c_3
    refine k_iload_n hC (pc := 10) dX12_home_10 1 rfl ?_
    refine k_iconst hC (pc := 11) (v := 0) dX12_home_11 ic_0 ?_
    refine k_iload_n hC (pc := 12) dX12_home_12 2 rfl ?_
    refine k_ci (rn_S hC (pc := 13) (As := [.int x1, .int 0, .int x2]) (rest := []) ca_X12_within ml_RX12_186 sm_X12_within (ct_X12_within x1 0 x2 h) (by rw [hR]; exact ⟨rfl, rfl, by decide, by decide⟩) rfl (Nat.le_of_ble_eq_true rfl) dX12_home_13 ⟨by rw [hR]; decide, by rw [hR]; decide⟩) (fun r_5 s_4 h => ?_)
    refine k_if_ne hC (pc := 16) 22 dX12_home_16 (by decide) (fun c_6 => ?_) (fun c_6 => ?_)
    · have h := h.1 c_6
      refine k_aload_n hC (pc := 22) dX12_home_22 0 rfl ?_
      refine gf_X12_29 hC (pc := 23)  fl_RX12_70 dX12_home_23 ?_
      refine k_iload_n hC (pc := 26) dX12_home_26 1 rfl ?_
      refine k_icmp_ne hC (pc := 27) 42 dX12_home_27 (by decide) (fun c_7 => ?_) (fun c_7 => ?_)
      · have h := h.1 c_7
        exact b_X12_home_42 hC hR hQ hr _ _ _ h
      · have h := h.2 c_7
        refine k_aload_n hC (pc := 30) dX12_home_30 0 rfl ?_
        refine gf_X12_30 hC (pc := 31)  fl_RX12_74 dX12_home_31 ?_
        refine k_iload_n hC (pc := 34) dX12_home_34 2 rfl ?_
        refine k_icmp_ne hC (pc := 35) 42 dX12_home_35 (by decide) (fun c_10 => ?_) (fun c_10 => ?_)
        · have h := h.1 c_10
          exact b_X12_home_42 hC hR hQ hr _ _ _ h
        · have h := h.2 c_10
          refine k_iconst hC (pc := 38) (v := 0) dX12_home_38 ic_0 ?_
          refine k_goto hC (pc := 39) 43 dX12_home_39 (by decide) ?_
          exact b_X12_home_43 hC hR hQ hr _ _ _ _ h
    · have h := h.2 c_6
      refine k_bipush hC (pc := 19) (v := (-2)) dX12_home_19 bp_m2 ?_
      exact k_iret hC (pc := 21) hQ hr dX12_home_21 h
theorem ct_X12_home {l : Launch} {G : Gx} {a : Ax} {s : Sx} {N : Nat} {post : Int32 → Sx → Prop} (x1 : Int32) (x2 : Int32) (h : w_X12_home N x1 x2 s post) : Met l yX12_home (Cond.code yX12_home cX12_home 4 (some .int) :: gw) { frames := 1, cells := 0, slots := 0, locals := 22 } (va_Pc [.ref (adr G a 6 0), .int x1, .int x2] (fun U => FU G a s U)) (Qi G a post) 0 0 (bs_ G) := met_of (plainFor_of_name (by decide)) (Nat.le_of_ble_eq_true rfl) rfl (fun X hC hl hR hQ hr hG hn => by subst hG; exact b_X12_home hC hR hQ hr hn s x1 x2 h)
theorem ca_X12_home : Ca yX12_home cX12_home 4 (some .int) 2 := ⟨cd_X12_home, ii_RX12, by decide, by decide, by decide +kernel⟩
def w_X12_fine (N : Nat) (x1 : Int32) (x2 : Int32) (x3 : Int32) (s : Sx) (post : Int32 → Sx → Prop) : Prop := w_X12_isMan N x1 s (fun r_2 s_1 => (¬ r_2 = 0 → w_X12_isDay N x2 s_1 (fun r_5 s_4 => (r_5 = 0 → post ((-2)) s_4) ∧ (¬ (r_5 = 0) → w_X12_within N x3 1 9999 s_4 (fun r_8 s_7 => (¬ r_8 = 0 → (¬ (s_7.1 6 0 31) = 30 → vp_in (s_7.1 6 0 31) 30 ∧ ∀ s_12, s_12 = setI s_7 5 32 (s_7.1 6 0 31).toNatClampNeg x1 → vp_in (s_12.1 6 0 31) 30 ∧ ∀ s_14, s_14 = setI s_12 5 33 (s_12.1 6 0 31).toNatClampNeg x2 → vp_in (s_14.1 6 0 31) 30 ∧ ∀ s_16, s_16 = setI s_14 5 34 (s_14.1 6 0 31).toNatClampNeg x3 → ∀ s_17, s_17 = setI s_16 6 0 31 ((s_16.1 6 0 31) + 1) → post (s_17.1 6 0 31) s_17) ∧ (¬ (¬ (s_7.1 6 0 31) = 30) → post ((-4)) s_7)) ∧ (¬ (¬ r_8 = 0) → post ((-2)) s_7))))) ∧ (¬ (¬ r_2 = 0) → post ((-1)) s_1))
set_option maxHeartbeats 4000000 in
theorem b_X12_fine {X : Kx} {a : Ax} {N : Nat} {post : Int32 → Sx → Prop} (hC : Cx X cX12_fine 4 RX12) (hR : X.R = { frames := 2, cells := 0, slots := 0, locals := 42 }) (hQ : X.Q = MQ X.below (Qi X.G a post) X.av X.s 0 0 (bs_ X.G)) (hr : X.meth.sig.returnType = (some .int)) (hn : X.meth.name = "fine") (s : Sx) (x1 : Int32) (x2 : Int32) (x3 : Int32) (h : w_X12_fine N x1 x2 x3 s post) : wk X a s 4 0 [(0, .ref (adr X.G a 6 0)), (1, .int x1), (2, .int x2), (3, .int x3)] [] 0 0 := by
  unfold w_X12_fine at h
  refine k_aload_n hC (pc := 0) dX12_fine_0 0 rfl ?_
  refine k_iload_n hC (pc := 1) dX12_fine_1 1 rfl ?_
  refine k_ci (rn_V hC (pc := 2) (As := [.int x1]) (rest := []) ca_X12_isMan ml_RX12_207 im_X12_isMan se_X12_isMan (fx_in f6_0) (ob6_0 _ _ _ _ _) rfl rfl (ct_X12_isMan x1 h) (by rw [hR]; exact ⟨rfl, rfl, by decide, by decide⟩) rfl (Nat.le_of_ble_eq_true rfl) dX12_fine_2 ⟨by rw [hR]; decide, by rw [hR]; decide⟩) (fun r_2 s_1 h => ?_)
  refine k_if_ne hC (pc := 5) 10 dX12_fine_5 (by decide) (fun c_3 => ?_) (fun c_3 => ?_)
  · have h := h.1 c_3
    refine k_iload_n hC (pc := 10) dX12_fine_10 2 rfl ?_
    refine k_ci (rn_S hC (pc := 11) (As := [.int x2]) (rest := []) ca_X12_isDay ml_RX12_203 sm_X12_isDay (ct_X12_isDay x2 h) (by rw [hR]; exact ⟨rfl, rfl, by decide, by decide⟩) rfl (Nat.le_of_ble_eq_true rfl) dX12_fine_11 ⟨by rw [hR]; decide, by rw [hR]; decide⟩) (fun r_5 s_4 h => ?_)
    refine k_if_eq hC (pc := 14) 28 dX12_fine_14 (by decide) (fun c_6 => ?_) (fun c_6 => ?_)
    · have h := h.1 c_6
      refine k_bipush hC (pc := 28) (v := (-2)) dX12_fine_28 bp_m2 ?_
      exact k_iret hC (pc := 30) hQ hr dX12_fine_30 h
    · have h := h.2 c_6
      refine k_iload_n hC (pc := 17) dX12_fine_17 3 rfl ?_
      refine k_iconst hC (pc := 18) (v := 1) dX12_fine_18 ic_1 ?_
      refine k_sipush hC (pc := 19) (v := 9999) dX12_fine_19 sp_9999 ?_
      refine k_ci (rn_S hC (pc := 22) (As := [.int x3, .int 1, .int 9999]) (rest := []) ca_X12_within ml_RX12_186 sm_X12_within (ct_X12_within x3 1 9999 h) (by rw [hR]; exact ⟨rfl, rfl, by decide, by decide⟩) rfl (Nat.le_of_ble_eq_true rfl) dX12_fine_22 ⟨by rw [hR]; decide, by rw [hR]; decide⟩) (fun r_8 s_7 h => ?_)
      refine k_if_ne hC (pc := 25) 31 dX12_fine_25 (by decide) (fun c_9 => ?_) (fun c_9 => ?_)
      · have h := h.1 c_9
        refine k_aload_n hC (pc := 31) dX12_fine_31 0 rfl ?_
        refine gf_X12_31 hC (pc := 32)  fl_RX12_268 dX12_fine_32 ?_
        refine k_bipush hC (pc := 35) (v := 30) dX12_fine_35 bp_30 ?_
        refine k_icmp_ne hC (pc := 37) 43 dX12_fine_37 (by decide) (fun c_10 => ?_) (fun c_10 => ?_)
        · have h := h.1 c_10
          refine k_aload_n hC (pc := 43) dX12_fine_43 0 rfl ?_
          refine gf_X12_32 hC (pc := 44)  fl_RX12_77 dX12_fine_44 ?_
          refine k_aload_n hC (pc := 47) dX12_fine_47 0 rfl ?_
          refine gf_X12_31 hC (pc := 48)  fl_RX12_268 dX12_fine_48 ?_
          refine k_iload_n hC (pc := 51) dX12_fine_51 1 rfl ?_
          obtain ⟨c_11, h⟩ := h
          refine r_iast hC (pc := 52) ra5_32 c_11 dX12_fine_52 (fun s_12 h_s_12 => ?_)
          have h := h s_12 h_s_12
          refine k_aload_n hC (pc := 53) dX12_fine_53 0 rfl ?_
          refine gf_X12_33 hC (pc := 54)  fl_RX12_80 dX12_fine_54 ?_
          refine k_aload_n hC (pc := 57) dX12_fine_57 0 rfl ?_
          refine gf_X12_31 hC (pc := 58)  fl_RX12_268 dX12_fine_58 ?_
          refine k_iload_n hC (pc := 61) dX12_fine_61 2 rfl ?_
          obtain ⟨c_13, h⟩ := h
          refine r_iast hC (pc := 62) ra5_33 c_13 dX12_fine_62 (fun s_14 h_s_14 => ?_)
          have h := h s_14 h_s_14
          refine k_aload_n hC (pc := 63) dX12_fine_63 0 rfl ?_
          refine gf_X12_34 hC (pc := 64)  fl_RX12_83 dX12_fine_64 ?_
          refine k_aload_n hC (pc := 67) dX12_fine_67 0 rfl ?_
          refine gf_X12_31 hC (pc := 68)  fl_RX12_268 dX12_fine_68 ?_
          refine k_iload_n hC (pc := 71) dX12_fine_71 3 rfl ?_
          obtain ⟨c_15, h⟩ := h
          refine r_iast hC (pc := 72) ra5_34 c_15 dX12_fine_72 (fun s_16 h_s_16 => ?_)
          have h := h s_16 h_s_16
          refine k_aload_n hC (pc := 73) dX12_fine_73 0 rfl ?_
          refine k_dup hC (pc := 74) dX12_fine_74 rfl ?_
          refine gf_X12_31 hC (pc := 75)  fl_RX12_268 dX12_fine_75 ?_
          refine k_iconst hC (pc := 78) (v := 1) dX12_fine_78 ic_1 ?_
          refine k_iadd hC (pc := 79) dX12_fine_79 ?_
          refine pf_X12_31 hC (pc := 80)  fl_RX12_268 dX12_fine_80 (fun s_17 h_s_17 => ?_)
          have h := h s_17 h_s_17
          refine k_aload_n hC (pc := 83) dX12_fine_83 0 rfl ?_
          refine gf_X12_31 hC (pc := 84)  fl_RX12_268 dX12_fine_84 ?_
          exact k_iret hC (pc := 87) hQ hr dX12_fine_87 h
        · have h := h.2 c_10
          refine k_bipush hC (pc := 40) (v := (-4)) dX12_fine_40 bp_m4 ?_
          exact k_iret hC (pc := 42) hQ hr dX12_fine_42 h
      · have h := h.2 c_9
        refine k_bipush hC (pc := 28) (v := (-2)) dX12_fine_28 bp_m2 ?_
        exact k_iret hC (pc := 30) hQ hr dX12_fine_30 h
  · have h := h.2 c_3
    refine k_iconst hC (pc := 8) (v := (-1)) dX12_fine_8 ic_m1 ?_
    exact k_iret hC (pc := 9) hQ hr dX12_fine_9 h
theorem ct_X12_fine {l : Launch} {G : Gx} {a : Ax} {s : Sx} {N : Nat} {post : Int32 → Sx → Prop} (x1 : Int32) (x2 : Int32) (x3 : Int32) (h : w_X12_fine N x1 x2 x3 s post) : Met l yX12_fine (Cond.code yX12_fine cX12_fine 4 (some .int) :: gw) { frames := 2, cells := 0, slots := 0, locals := 42 } (va_Pc [.ref (adr G a 6 0), .int x1, .int x2, .int x3] (fun U => FU G a s U)) (Qi G a post) 0 0 (bs_ G) := met_of (plainFor_of_name (by decide)) (Nat.le_of_ble_eq_true rfl) rfl (fun X hC hl hR hQ hr hG hn => by subst hG; exact b_X12_fine hC hR hQ hr hn s x1 x2 x3 h)
theorem ca_X12_fine : Ca yX12_fine cX12_fine 4 (some .int) 3 := ⟨cd_X12_fine, ii_RX12, by decide, by decide, by decide +kernel⟩
def w_X12_pay_183 (N : Nat) (post : Int32 → Sx → Prop) (s : Sx) (x4 : Int32) (x5 : Int32) (x6 : Int32) (x7 : Int32) (z0 : Int32) : Prop := (x4 = 0 → post x5 s) ∧ (¬ (x4 = 0) → (x4 = 1 → post x7 s) ∧ (¬ (x4 = 1) → (x4 = 2 → post z0 s) ∧ (¬ (x4 = 2) → (x4 = 3 → post ((x5 - x7) - z0) s) ∧ (¬ (x4 = 3) → post (x6 - z0) s))))
def w_X12_pay_139 (N : Nat) (post : Int32 → Sx → Prop) (K92 : Sx → Int32 → Int32 → Int32 → Int32 → Int32 → Int32 → Int32 → Prop) (s : Sx) (x1 : Int32) (x2 : Int32) (x3 : Int32) (x4 : Int32) (x5 : Int32) (x7 : Int32) (z0 : Int32) : Prop := ∀ x_21 : Int32, x_21 = z0 + 0 → ∀ x_22 : Int32, x_22 = x7 + 1 → K92 s x1 x2 x3 x4 x5 x_21 x_22
def w_X12_pay_92 (N : Nat) (post : Int32 → Sx → Prop) : Nat → Sx → Int32 → Int32 → Int32 → Int32 → Int32 → Int32 → Int32 → Prop
  | 0, _, _, _, _, _, _, _, _ => False
  | n + 1, s, x1, x2, x3, x4, x5, x6, x7 => ((s.1 6 0 31) ≤ x7 → ¬ (s.1 6 0 30) = 0 ∧ ∀ x_13 : Int32, x_13 = (x5 * (s.1 6 0 29)) / (s.1 6 0 30) → ((x5 - x_13) ≤ x6 → w_X12_pay_183 N post s x4 x5 x6 x_13 (x5 - x_13)) ∧ (¬ ((x5 - x_13) ≤ x6) → w_X12_pay_183 N post s x4 x5 x6 x_13 x6)) ∧ (¬ ((s.1 6 0 31) ≤ x7) → vp_in x7 30 ∧ (¬ (s.1 5 32 x7.toNatClampNeg) = x1 → w_X12_pay_139 N post (w_X12_pay_92 N post n) s x1 x2 x3 x4 x5 x7 x6) ∧ (¬ (¬ (s.1 5 32 x7.toNatClampNeg) = x1) → vp_in x7 30 ∧ w_X12_within N (s.1 5 33 x7.toNatClampNeg) x2 x3 s (fun r_25 s_24 => (r_25 = 0 → w_X12_pay_139 N post (w_X12_pay_92 N post n) s_24 x1 x2 x3 x4 x5 x7 x6) ∧ (¬ (r_25 = 0) → vp_in x7 30 ∧ ∀ x_28 : Int32, x_28 = x6 + (s_24.1 5 34 x7.toNatClampNeg) → ∀ x_29 : Int32, x_29 = x7 + 1 → w_X12_pay_92 N post n s_24 x1 x2 x3 x4 x5 x_28 x_29))))
def w_X12_pay_37 (N : Nat) (post : Int32 → Sx → Prop) : Nat → Sx → Int32 → Int32 → Int32 → Int32 → Int32 → Int32 → Prop
  | 0, _, _, _, _, _, _, _ => False
  | n + 1, s, x1, x2, x3, x4, x5, x6 => (x3 < x6 → w_X12_pay_92 N post N s x1 x2 x3 x4 x5 0 0) ∧ (¬ (x3 < x6) → w_X12_postOn N x1 x6 s (fun r_31 s_30 => (¬ r_31 = ((-9)) → vp_in r_31 30 ∧ vp_in (s_30.1 5 11 r_31.toNatClampNeg) 3 ∧ ∀ x_35 : Int32, x_35 = x5 + (s_30.1 5 28 (s_30.1 5 11 r_31.toNatClampNeg).toNatClampNeg) → ∀ x_36 : Int32, x_36 = x6 + 1 → w_X12_pay_37 N post n s_30 x1 x2 x3 x4 x_35 x_36) ∧ (¬ (¬ r_31 = ((-9))) → ∀ x_37 : Int32, x_37 = x5 + 0 → ∀ x_38 : Int32, x_38 = x6 + 1 → w_X12_pay_37 N post n s_30 x1 x2 x3 x4 x_37 x_38)))
def w_X12_pay (N : Nat) (x1 : Int32) (x2 : Int32) (x3 : Int32) (x4 : Int32) (s : Sx) (post : Int32 → Sx → Prop) : Prop := w_X12_isMan N x1 s (fun r_2 s_1 => (¬ r_2 = 0 → w_X12_areDays N x2 x3 s_1 (fun r_5 s_4 => (r_5 = 0 → post ((-2)) s_4) ∧ (¬ (r_5 = 0) → w_X12_within N x4 0 4 s_4 (fun r_8 s_7 => (¬ r_8 = 0 → w_X12_pay_37 N post N s_7 x1 x2 x3 x4 0 x2) ∧ (¬ (¬ r_8 = 0) → post ((-2)) s_7))))) ∧ (¬ (¬ r_2 = 0) → post ((-1)) s_1))
set_option maxHeartbeats 4000000 in
theorem b_X12_pay_183 {X : Kx} {a : Ax} {N : Nat} {post : Int32 → Sx → Prop}  (hC : Cx X cX12_pay 9 RX12) (hR : X.R = { frames := 3, cells := 0, slots := 0, locals := 63 }) (hQ : X.Q = MQ X.below (Qi X.G a post) X.av X.s 0 0 (bs_ X.G)) (hr : X.meth.sig.returnType = (some .int))   (s : Sx) (x4 : Int32) (x5 : Int32) (x6 : Int32) (x7 : Int32) (z0 : Int32) (h : w_X12_pay_183 N post  s x4 x5 x6 x7 z0) : wk X a s 9 183 [(4, .int x4), (5, .int x5), (6, .int x6), (7, .int x7)] [.int z0] 0 0 := by
  unfold w_X12_pay_183 at h
  refine k_istore hC (pc := 183) dX12_pay_183 [(8, .int z0), (4, .int x4), (5, .int x5), (6, .int x6), (7, .int x7)] (by decide) rfl ?_
  refine k_iload hC (pc := 185) dX12_pay_185 1 rfl ?_
  by_cases c_15 : x4 = 0
  · have h := h.1 c_15
    refine k_tsIn hC (pc := 187) (x := x4) 216 dX12_pay_187 (by rw [c_15]; decide) (by rw [c_15]; decide) (by rw [c_15]; rfl) (by decide) ?_
    refine k_iload hC (pc := 216) dX12_pay_216 2 rfl ?_
    exact k_iret hC (pc := 218) hQ hr dX12_pay_218 h
  · have h := h.2 c_15
    by_cases c_16 : x4 = 1
    · have h := h.1 c_16
      refine k_tsIn hC (pc := 187) (x := x4) 219 dX12_pay_187 (by rw [c_16]; decide) (by rw [c_16]; decide) (by rw [c_16]; rfl) (by decide) ?_
      refine k_iload hC (pc := 219) dX12_pay_219 4 rfl ?_
      exact k_iret hC (pc := 221) hQ hr dX12_pay_221 h
    · have h := h.2 c_16
      by_cases c_17 : x4 = 2
      · have h := h.1 c_17
        refine k_tsIn hC (pc := 187) (x := x4) 222 dX12_pay_187 (by rw [c_17]; decide) (by rw [c_17]; decide) (by rw [c_17]; rfl) (by decide) ?_
        refine k_iload hC (pc := 222) dX12_pay_222 0 rfl ?_
        exact k_iret hC (pc := 224) hQ hr dX12_pay_224 h
      · have h := h.2 c_17
        by_cases c_18 : x4 = 3
        · have h := h.1 c_18
          refine k_tsIn hC (pc := 187) (x := x4) 225 dX12_pay_187 (by rw [c_18]; decide) (by rw [c_18]; decide) (by rw [c_18]; rfl) (by decide) ?_
          refine k_iload hC (pc := 225) dX12_pay_225 2 rfl ?_
          refine k_iload hC (pc := 227) dX12_pay_227 4 rfl ?_
          refine k_isub hC (pc := 229) dX12_pay_229 ?_
          refine k_iload hC (pc := 230) dX12_pay_230 0 rfl ?_
          refine k_isub hC (pc := 232) dX12_pay_232 ?_
          exact k_iret hC (pc := 233) hQ hr dX12_pay_233 h
        · have h := h.2 c_18
          refine k_tsOut hC (pc := 187) (x := x4) 234 dX12_pay_187 (ts_out4 c_15 c_16 c_17 c_18) (by decide) ?_
          refine k_iload hC (pc := 234) dX12_pay_234 3 rfl ?_
          refine k_iload hC (pc := 236) dX12_pay_236 0 rfl ?_
          refine k_isub hC (pc := 238) dX12_pay_238 ?_
          exact k_iret hC (pc := 239) hQ hr dX12_pay_239 h
set_option maxHeartbeats 4000000 in
theorem b_X12_pay_139 {X : Kx} {a : Ax} {N : Nat} {post : Int32 → Sx → Prop} {K92 : Sx → Int32 → Int32 → Int32 → Int32 → Int32 → Int32 → Int32 → Prop}  (hC : Cx X cX12_pay 9 RX12) (hR : X.R = { frames := 3, cells := 0, slots := 0, locals := 63 }) (hQ : X.Q = MQ X.below (Qi X.G a post) X.av X.s 0 0 (bs_ X.G)) (hr : X.meth.sig.returnType = (some .int))  (hK92 : ∀ (s : Sx) (x1 : Int32) (x2 : Int32) (x3 : Int32) (x4 : Int32) (x5 : Int32) (x6 : Int32) (x7 : Int32), K92 s x1 x2 x3 x4 x5 x6 x7 → wk X a s 9 92 [(0, .ref (adr X.G a 6 0)), (1, .int x1), (2, .int x2), (3, .int x3), (4, .int x4), (5, .int x5), (6, .int x6), (7, .int x7)] [] 0 0) (s : Sx) (x1 : Int32) (x2 : Int32) (x3 : Int32) (x4 : Int32) (x5 : Int32) (x7 : Int32) (z0 : Int32) (h : w_X12_pay_139 N post K92 s x1 x2 x3 x4 x5 x7 z0) : wk X a s 9 139 [(0, .ref (adr X.G a 6 0)), (1, .int x1), (2, .int x2), (3, .int x3), (4, .int x4), (5, .int x5), (7, .int x7)] [.int z0] 0 0 := by
  unfold w_X12_pay_139 at h
  refine k_iconst hC (pc := 139) (v := 0) dX12_pay_139 ic_0 ?_
  refine k_iadd hC (pc := 140) dX12_pay_140 ?_
  refine k_topi (fun x_21 h_x_21 => ?_)
  have h := h x_21 h_x_21
  refine k_istore hC (pc := 141) dX12_pay_141 [(6, .int x_21), (0, .ref (adr X.G a 6 0)), (1, .int x1), (2, .int x2), (3, .int x3), (4, .int x4), (5, .int x5), (7, .int x7)] (by decide) rfl ?_
  obtain ⟨x_22, h_x_22⟩ : ∃ z : Int32, z = x7 + 1 := ⟨_, rfl⟩
  have h := h x_22 h_x_22
  refine k_iincw hC (pc := 143) dX12_pay_143 7 rfl ic_1 h_x_22.symm [(7, .int x_22), (6, .int x_21), (0, .ref (adr X.G a 6 0)), (1, .int x1), (2, .int x2), (3, .int x3), (4, .int x4), (5, .int x5)] (by decide) rfl ?_
  refine k_goto hC (pc := 146) 92 dX12_pay_146 (by decide) ?_
  refine k_sub [(0, .ref (adr X.G a 6 0)), (1, .int x1), (2, .int x2), (3, .int x3), (4, .int x4), (5, .int x5), (6, .int x_21), (7, .int x_22)] [2, 3, 4, 5, 6, 7, 1, 0] rfl ?_
  exact hK92 _ _ _ _ _ _ _ _ h
set_option maxHeartbeats 4000000 in
theorem b_X12_pay_92 {X : Kx} {a : Ax} {N : Nat} {post : Int32 → Sx → Prop}  (hC : Cx X cX12_pay 9 RX12) (hR : X.R = { frames := 3, cells := 0, slots := 0, locals := 63 }) (hQ : X.Q = MQ X.below (Qi X.G a post) X.av X.s 0 0 (bs_ X.G)) (hr : X.meth.sig.returnType = (some .int))   : ∀ (n : Nat) (s : Sx) (x1 : Int32) (x2 : Int32) (x3 : Int32) (x4 : Int32) (x5 : Int32) (x6 : Int32) (x7 : Int32), w_X12_pay_92 N post  n s x1 x2 x3 x4 x5 x6 x7 → wk X a s 9 92 [(0, .ref (adr X.G a 6 0)), (1, .int x1), (2, .int x2), (3, .int x3), (4, .int x4), (5, .int x5), (6, .int x6), (7, .int x7)] [] 0 0 := by
  intro n
  induction n with
  | zero => intro s x1 x2 x3 x4 x5 x6 x7 h; exact h.elim
  | succ n ih =>
    intro s x1 x2 x3 x4 x5 x6 x7 h
    unfold w_X12_pay_92 at h
    refine k_iload hC (pc := 92) dX12_pay_92 7 rfl ?_
    refine k_aload_n hC (pc := 94) dX12_pay_94 0 rfl ?_
    refine gf_X12_31 hC (pc := 95)  fl_RX12_268 dX12_pay_95 ?_
    refine k_icmp_ge hC (pc := 98) 149 dX12_pay_98 (by decide) (fun c_11 => ?_) (fun c_11 => ?_)
    · have h := h.1 c_11
      refine k_iload hC (pc := 149) dX12_pay_149 5 rfl ?_
      refine k_aload_n hC (pc := 151) dX12_pay_151 0 rfl ?_
      refine gf_X12_29 hC (pc := 152)  fl_RX12_70 dX12_pay_152 ?_
      refine k_imul hC (pc := 155) dX12_pay_155 ?_
      refine k_aload_n hC (pc := 156) dX12_pay_156 0 rfl ?_
      refine gf_X12_30 hC (pc := 157)  fl_RX12_74 dX12_pay_157 ?_
      obtain ⟨c_12, h⟩ := h
      refine k_idiv hC (pc := 160) dX12_pay_160 c_12 ?_
      refine k_topi (fun x_13 h_x_13 => ?_)
      have h := h x_13 h_x_13
      refine k_istore hC (pc := 161) dX12_pay_161 [(7, .int x_13), (0, .ref (adr X.G a 6 0)), (1, .int x1), (2, .int x2), (3, .int x3), (4, .int x4), (5, .int x5), (6, .int x6)] (by decide) rfl ?_
      refine k_iload hC (pc := 163) dX12_pay_163 7 rfl ?_
      refine k_iload hC (pc := 165) dX12_pay_165 6 rfl ?_
      refine k_iload hC (pc := 167) dX12_pay_167 0 rfl ?_
      refine k_isub hC (pc := 169) dX12_pay_169 ?_
      refine k_icmp_ge hC (pc := 170) 178 dX12_pay_170 (by decide) (fun c_14 => ?_) (fun c_14 => ?_)
      · have h := h.1 c_14
        refine k_iload hC (pc := 178) dX12_pay_178 6 rfl ?_
        refine k_iload hC (pc := 180) dX12_pay_180 0 rfl ?_
        refine k_isub hC (pc := 182) dX12_pay_182 ?_
        refine k_sub [(4, .int x4), (5, .int x5), (6, .int x6), (7, .int x_13)] [5, 6, 7, 0] rfl ?_
        exact b_X12_pay_183 hC hR hQ hr _ _ _ _ _ _ h
      · have h := h.2 c_14
        refine k_iload hC (pc := 173) dX12_pay_173 7 rfl ?_
        refine k_goto hC (pc := 175) 183 dX12_pay_175 (by decide) ?_
        refine k_sub [(4, .int x4), (5, .int x5), (6, .int x6), (7, .int x_13)] [5, 6, 7, 0] rfl ?_
        exact b_X12_pay_183 hC hR hQ hr _ _ _ _ _ _ h
    · have h := h.2 c_11
      refine k_iload hC (pc := 101) dX12_pay_101 6 rfl ?_
      refine k_aload_n hC (pc := 103) dX12_pay_103 0 rfl ?_
      refine gf_X12_32 hC (pc := 104)  fl_RX12_77 dX12_pay_104 ?_
      refine k_iload hC (pc := 107) dX12_pay_107 7 rfl ?_
      obtain ⟨c_19, h⟩ := h
      refine r_iald hC (pc := 109) ra5_32 c_19 dX12_pay_109 ?_
      refine k_iload_n hC (pc := 110) dX12_pay_110 1 rfl ?_
      refine k_icmp_ne hC (pc := 111) 139 dX12_pay_111 (by decide) (fun c_20 => ?_) (fun c_20 => ?_)
      · have h := h.1 c_20
        refine k_sub [(0, .ref (adr X.G a 6 0)), (1, .int x1), (2, .int x2), (3, .int x3), (4, .int x4), (5, .int x5), (7, .int x7)] [0, 1, 2, 3, 4, 5, 7] rfl ?_
        exact b_X12_pay_139 hC hR hQ hr ih _ _ _ _ _ _ _ _ h
      · have h := h.2 c_20
        refine k_aload_n hC (pc := 114) dX12_pay_114 0 rfl ?_
        refine gf_X12_33 hC (pc := 115)  fl_RX12_80 dX12_pay_115 ?_
        refine k_iload hC (pc := 118) dX12_pay_118 7 rfl ?_
        obtain ⟨c_23, h⟩ := h
        refine r_iald hC (pc := 120) ra5_33 c_23 dX12_pay_120 ?_
        refine k_iload_n hC (pc := 121) dX12_pay_121 2 rfl ?_
        refine k_iload_n hC (pc := 122) dX12_pay_122 3 rfl ?_
        refine k_ci (rn_S hC (pc := 123) (As := [.int (s.1 5 33 x7.toNatClampNeg), .int x2, .int x3]) (rest := [.int x6]) ca_X12_within ml_RX12_186 sm_X12_within (ct_X12_within (s.1 5 33 x7.toNatClampNeg) x2 x3 h) (by rw [hR]; exact ⟨rfl, rfl, by decide, by decide⟩) rfl (Nat.le_of_ble_eq_true rfl) dX12_pay_123 ⟨by rw [hR]; decide, by rw [hR]; decide⟩) (fun r_25 s_24 h => ?_)
        refine k_if_eq hC (pc := 126) 139 dX12_pay_126 (by decide) (fun c_26 => ?_) (fun c_26 => ?_)
        · have h := h.1 c_26
          refine k_sub [(0, .ref (adr X.G a 6 0)), (1, .int x1), (2, .int x2), (3, .int x3), (4, .int x4), (5, .int x5), (7, .int x7)] [0, 1, 2, 3, 4, 5, 7] rfl ?_
          exact b_X12_pay_139 hC hR hQ hr ih _ _ _ _ _ _ _ _ h
        · have h := h.2 c_26
          refine k_aload_n hC (pc := 129) dX12_pay_129 0 rfl ?_
          refine gf_X12_34 hC (pc := 130)  fl_RX12_83 dX12_pay_130 ?_
          refine k_iload hC (pc := 133) dX12_pay_133 7 rfl ?_
          obtain ⟨c_27, h⟩ := h
          refine r_iald hC (pc := 135) ra5_34 c_27 dX12_pay_135 ?_
          refine k_goto hC (pc := 136) 140 dX12_pay_136 (by decide) ?_
          refine k_iadd hC (pc := 140) dX12_pay_140 ?_
          refine k_topi (fun x_28 h_x_28 => ?_)
          have h := h x_28 h_x_28
          refine k_istore hC (pc := 141) dX12_pay_141 [(6, .int x_28), (0, .ref (adr X.G a 6 0)), (1, .int x1), (2, .int x2), (3, .int x3), (4, .int x4), (5, .int x5), (7, .int x7)] (by decide) rfl ?_
          obtain ⟨x_29, h_x_29⟩ : ∃ z : Int32, z = x7 + 1 := ⟨_, rfl⟩
          have h := h x_29 h_x_29
          refine k_iincw hC (pc := 143) dX12_pay_143 7 rfl ic_1 h_x_29.symm [(7, .int x_29), (6, .int x_28), (0, .ref (adr X.G a 6 0)), (1, .int x1), (2, .int x2), (3, .int x3), (4, .int x4), (5, .int x5)] (by decide) rfl ?_
          refine k_goto hC (pc := 146) 92 dX12_pay_146 (by decide) ?_
          refine k_sub [(0, .ref (adr X.G a 6 0)), (1, .int x1), (2, .int x2), (3, .int x3), (4, .int x4), (5, .int x5), (6, .int x_28), (7, .int x_29)] [2, 3, 4, 5, 6, 7, 1, 0] rfl ?_
          exact ih _ _ _ _ _ _ _ _ h
set_option maxHeartbeats 4000000 in
theorem b_X12_pay_37 {X : Kx} {a : Ax} {N : Nat} {post : Int32 → Sx → Prop}  (hC : Cx X cX12_pay 9 RX12) (hR : X.R = { frames := 3, cells := 0, slots := 0, locals := 63 }) (hQ : X.Q = MQ X.below (Qi X.G a post) X.av X.s 0 0 (bs_ X.G)) (hr : X.meth.sig.returnType = (some .int))   : ∀ (n : Nat) (s : Sx) (x1 : Int32) (x2 : Int32) (x3 : Int32) (x4 : Int32) (x5 : Int32) (x6 : Int32), w_X12_pay_37 N post  n s x1 x2 x3 x4 x5 x6 → wk X a s 9 37 [(0, .ref (adr X.G a 6 0)), (1, .int x1), (2, .int x2), (3, .int x3), (4, .int x4), (5, .int x5), (6, .int x6)] [] 0 0 := by
  intro n
  induction n with
  | zero => intro s x1 x2 x3 x4 x5 x6 h; exact h.elim
  | succ n ih =>
    intro s x1 x2 x3 x4 x5 x6 h
    unfold w_X12_pay_37 at h
    refine k_iload hC (pc := 37) dX12_pay_37 6 rfl ?_
    refine k_iload_n hC (pc := 39) dX12_pay_39 3 rfl ?_
    refine k_icmp_gt hC (pc := 40) 86 dX12_pay_40 (by decide) (fun c_10 => ?_) (fun c_10 => ?_)
    · have h := h.1 c_10
      refine k_iconst hC (pc := 86) (v := 0) dX12_pay_86 ic_0 ?_
      refine k_istore hC (pc := 87) dX12_pay_87 [(6, .int 0), (0, .ref (adr X.G a 6 0)), (1, .int x1), (2, .int x2), (3, .int x3), (4, .int x4), (5, .int x5)] (by decide) rfl ?_
      refine k_iconst hC (pc := 89) (v := 0) dX12_pay_89 ic_0 ?_
      refine k_istore hC (pc := 90) dX12_pay_90 [(7, .int 0), (6, .int 0), (0, .ref (adr X.G a 6 0)), (1, .int x1), (2, .int x2), (3, .int x3), (4, .int x4), (5, .int x5)] (by decide) rfl ?_
      refine k_sub [(0, .ref (adr X.G a 6 0)), (1, .int x1), (2, .int x2), (3, .int x3), (4, .int x4), (5, .int x5), (6, .int 0), (7, .int 0)] [2, 3, 4, 5, 6, 7, 1, 0] rfl ?_
      exact b_X12_pay_92 hC hR hQ hr N _ _ _ _ _ _ _ _ h
    · have h := h.2 c_10
      refine k_aload_n hC (pc := 43) dX12_pay_43 0 rfl ?_
      refine k_iload_n hC (pc := 44) dX12_pay_44 1 rfl ?_
      refine k_iload hC (pc := 45) dX12_pay_45 6 rfl ?_
      refine k_ci (rn_V hC (pc := 47) (As := [.int x1, .int x6]) (rest := []) ca_X12_postOn ml_RX12_216 im_X12_postOn se_X12_postOn (fx_in f6_0) (ob6_0 _ _ _ _ _) rfl rfl (ct_X12_postOn x1 x6 h) (by rw [hR]; exact ⟨rfl, rfl, by decide, by decide⟩) rfl (Nat.le_of_ble_eq_true rfl) dX12_pay_47 ⟨by rw [hR]; decide, by rw [hR]; decide⟩) (fun r_31 s_30 h => ?_)
      refine k_istore hC (pc := 50) dX12_pay_50 [(7, .int r_31), (0, .ref (adr X.G a 6 0)), (1, .int x1), (2, .int x2), (3, .int x3), (4, .int x4), (5, .int x5), (6, .int x6)] (by decide) rfl ?_
      refine k_iload hC (pc := 52) dX12_pay_52 6 rfl ?_
      refine k_iload hC (pc := 54) dX12_pay_54 0 rfl ?_
      refine k_bipush hC (pc := 56) (v := (-9)) dX12_pay_56 bp_m9 ?_
      refine k_icmp_ne hC (pc := 58) 65 dX12_pay_58 (by decide) (fun c_32 => ?_) (fun c_32 => ?_)
      · have h := h.1 c_32
        refine k_aload_n hC (pc := 65) dX12_pay_65 1 rfl ?_
        refine gf_X12_28 hC (pc := 66)  fl_RX12_67 dX12_pay_66 ?_
        refine k_aload_n hC (pc := 69) dX12_pay_69 1 rfl ?_
        refine gf_X12_11 hC (pc := 70)  fl_RX12_28 dX12_pay_70 ?_
        refine k_iload hC (pc := 73) dX12_pay_73 0 rfl ?_
        obtain ⟨c_33, h⟩ := h
        refine r_iald hC (pc := 75) ra5_11 c_33 dX12_pay_75 ?_
        obtain ⟨c_34, h⟩ := h
        refine r_iald hC (pc := 76) ra5_28 c_34 dX12_pay_76 ?_
        refine k_iadd hC (pc := 77) dX12_pay_77 ?_
        refine k_topi (fun x_35 h_x_35 => ?_)
        have h := h x_35 h_x_35
        refine k_istore hC (pc := 78) dX12_pay_78 [(5, .int x_35), (7, .int r_31), (0, .ref (adr X.G a 6 0)), (1, .int x1), (2, .int x2), (3, .int x3), (4, .int x4), (6, .int x6)] (by decide) rfl ?_
        obtain ⟨x_36, h_x_36⟩ : ∃ z : Int32, z = x6 + 1 := ⟨_, rfl⟩
        have h := h x_36 h_x_36
        refine k_iincw hC (pc := 80) dX12_pay_80 7 rfl ic_1 h_x_36.symm [(6, .int x_36), (5, .int x_35), (7, .int r_31), (0, .ref (adr X.G a 6 0)), (1, .int x1), (2, .int x2), (3, .int x3), (4, .int x4)] (by decide) rfl ?_
        refine k_goto hC (pc := 83) 37 dX12_pay_83 (by decide) ?_
        refine k_sub [(0, .ref (adr X.G a 6 0)), (1, .int x1), (2, .int x2), (3, .int x3), (4, .int x4), (5, .int x_35), (6, .int x_36)] [3, 4, 5, 6, 7, 1, 0] rfl ?_
        exact ih _ _ _ _ _ _ _ h
      · have h := h.2 c_32
        refine k_iconst hC (pc := 61) (v := 0) dX12_pay_61 ic_0 ?_
        refine k_goto hC (pc := 62) 77 dX12_pay_62 (by decide) ?_
        refine k_iadd hC (pc := 77) dX12_pay_77 ?_
        refine k_topi (fun x_37 h_x_37 => ?_)
        have h := h x_37 h_x_37
        refine k_istore hC (pc := 78) dX12_pay_78 [(5, .int x_37), (7, .int r_31), (0, .ref (adr X.G a 6 0)), (1, .int x1), (2, .int x2), (3, .int x3), (4, .int x4), (6, .int x6)] (by decide) rfl ?_
        obtain ⟨x_38, h_x_38⟩ : ∃ z : Int32, z = x6 + 1 := ⟨_, rfl⟩
        have h := h x_38 h_x_38
        refine k_iincw hC (pc := 80) dX12_pay_80 7 rfl ic_1 h_x_38.symm [(6, .int x_38), (5, .int x_37), (7, .int r_31), (0, .ref (adr X.G a 6 0)), (1, .int x1), (2, .int x2), (3, .int x3), (4, .int x4)] (by decide) rfl ?_
        refine k_goto hC (pc := 83) 37 dX12_pay_83 (by decide) ?_
        refine k_sub [(0, .ref (adr X.G a 6 0)), (1, .int x1), (2, .int x2), (3, .int x3), (4, .int x4), (5, .int x_37), (6, .int x_38)] [3, 4, 5, 6, 7, 1, 0] rfl ?_
        exact ih _ _ _ _ _ _ _ h
set_option maxHeartbeats 4000000 in
theorem b_X12_pay {X : Kx} {a : Ax} {N : Nat} {post : Int32 → Sx → Prop} (hC : Cx X cX12_pay 9 RX12) (hR : X.R = { frames := 3, cells := 0, slots := 0, locals := 63 }) (hQ : X.Q = MQ X.below (Qi X.G a post) X.av X.s 0 0 (bs_ X.G)) (hr : X.meth.sig.returnType = (some .int)) (hn : X.meth.name = "pay") (s : Sx) (x1 : Int32) (x2 : Int32) (x3 : Int32) (x4 : Int32) (h : w_X12_pay N x1 x2 x3 x4 s post) : wk X a s 9 0 [(0, .ref (adr X.G a 6 0)), (1, .int x1), (2, .int x2), (3, .int x3), (4, .int x4)] [] 0 0 := by
  unfold w_X12_pay at h
  refine k_aload_n hC (pc := 0) dX12_pay_0 0 rfl ?_
  refine k_iload_n hC (pc := 1) dX12_pay_1 1 rfl ?_
  refine k_ci (rn_V hC (pc := 2) (As := [.int x1]) (rest := []) ca_X12_isMan ml_RX12_207 im_X12_isMan se_X12_isMan (fx_in f6_0) (ob6_0 _ _ _ _ _) rfl rfl (ct_X12_isMan x1 h) (by rw [hR]; exact ⟨rfl, rfl, by decide, by decide⟩) rfl (Nat.le_of_ble_eq_true rfl) dX12_pay_2 ⟨by rw [hR]; decide, by rw [hR]; decide⟩) (fun r_2 s_1 h => ?_)
  refine k_if_ne hC (pc := 5) 10 dX12_pay_5 (by decide) (fun c_3 => ?_) (fun c_3 => ?_)
  · have h := h.1 c_3
    refine k_iload_n hC (pc := 10) dX12_pay_10 2 rfl ?_
    refine k_iload_n hC (pc := 11) dX12_pay_11 3 rfl ?_
    refine k_ci (rn_S hC (pc := 12) (As := [.int x2, .int x3]) (rest := []) ca_X12_areDays ml_RX12_213 sm_X12_areDays (ct_X12_areDays x2 x3 h) (by rw [hR]; exact ⟨rfl, rfl, by decide, by decide⟩) rfl (Nat.le_of_ble_eq_true rfl) dX12_pay_12 ⟨by rw [hR]; decide, by rw [hR]; decide⟩) (fun r_5 s_4 h => ?_)
    refine k_if_eq hC (pc := 15) 28 dX12_pay_15 (by decide) (fun c_6 => ?_) (fun c_6 => ?_)
    · have h := h.1 c_6
      refine k_bipush hC (pc := 28) (v := (-2)) dX12_pay_28 bp_m2 ?_
      exact k_iret hC (pc := 30) hQ hr dX12_pay_30 h
    · have h := h.2 c_6
      refine k_iload hC (pc := 18) dX12_pay_18 4 rfl ?_
      refine k_iconst hC (pc := 20) (v := 0) dX12_pay_20 ic_0 ?_
      refine k_iconst hC (pc := 21) (v := 4) dX12_pay_21 ic_4 ?_
      refine k_ci (rn_S hC (pc := 22) (As := [.int x4, .int 0, .int 4]) (rest := []) ca_X12_within ml_RX12_186 sm_X12_within (ct_X12_within x4 0 4 h) (by rw [hR]; exact ⟨rfl, rfl, by decide, by decide⟩) rfl (Nat.le_of_ble_eq_true rfl) dX12_pay_22 ⟨by rw [hR]; decide, by rw [hR]; decide⟩) (fun r_8 s_7 h => ?_)
      refine k_if_ne hC (pc := 25) 31 dX12_pay_25 (by decide) (fun c_9 => ?_) (fun c_9 => ?_)
      · have h := h.1 c_9
        refine k_iconst hC (pc := 31) (v := 0) dX12_pay_31 ic_0 ?_
        refine k_istore hC (pc := 32) dX12_pay_32 [(5, .int 0), (0, .ref (adr X.G a 6 0)), (1, .int x1), (2, .int x2), (3, .int x3), (4, .int x4)] (by decide) rfl ?_
        refine k_iload_n hC (pc := 34) dX12_pay_34 3 rfl ?_
        refine k_istore hC (pc := 35) dX12_pay_35 [(6, .int x2), (5, .int 0), (0, .ref (adr X.G a 6 0)), (1, .int x1), (2, .int x2), (3, .int x3), (4, .int x4)] (by decide) rfl ?_
        refine k_sub [(0, .ref (adr X.G a 6 0)), (1, .int x1), (2, .int x2), (3, .int x3), (4, .int x4), (5, .int 0), (6, .int x2)] [2, 3, 4, 5, 6, 1, 0] rfl ?_
        exact b_X12_pay_37 hC hR hQ hr N _ _ _ _ _ _ _ h
      · have h := h.2 c_9
        refine k_bipush hC (pc := 28) (v := (-2)) dX12_pay_28 bp_m2 ?_
        exact k_iret hC (pc := 30) hQ hr dX12_pay_30 h
  · have h := h.2 c_3
    refine k_iconst hC (pc := 8) (v := (-1)) dX12_pay_8 ic_m1 ?_
    exact k_iret hC (pc := 9) hQ hr dX12_pay_9 h
theorem ct_X12_pay {l : Launch} {G : Gx} {a : Ax} {s : Sx} {N : Nat} {post : Int32 → Sx → Prop} (x1 : Int32) (x2 : Int32) (x3 : Int32) (x4 : Int32) (h : w_X12_pay N x1 x2 x3 x4 s post) : Met l yX12_pay (Cond.code yX12_pay cX12_pay 9 (some .int) :: gw) { frames := 3, cells := 0, slots := 0, locals := 63 } (va_Pc [.ref (adr G a 6 0), .int x1, .int x2, .int x3, .int x4] (fun U => FU G a s U)) (Qi G a post) 0 0 (bs_ G) := met_of (plainFor_of_name (by decide)) (Nat.le_of_ble_eq_true rfl) rfl (fun X hC hl hR hQ hr hG hn => by subst hG; exact b_X12_pay hC hR hQ hr hn s x1 x2 x3 x4 h)
theorem ca_X12_pay : Ca yX12_pay cX12_pay 9 (some .int) 4 := ⟨cd_X12_pay, ii_RX12, by decide, by decide, by decide +kernel⟩
def w_X12_isWork (N : Nat) (x1 : Int32) (s : Sx) (post : Int32 → Sx → Prop) : Prop := (x1 < 0 → post 0 s) ∧ (¬ (x1 < 0) → ((s.1 6 0 35) ≤ x1 → post 0 s) ∧ (¬ ((s.1 6 0 35) ≤ x1) → post 1 s))
set_option maxHeartbeats 4000000 in
theorem b_X12_isWork {X : Kx} {a : Ax} {N : Nat} {post : Int32 → Sx → Prop} (hC : Cx X cX12_isWork 2 RX12) (hR : X.R = { frames := 0, cells := 0, slots := 0, locals := 0 }) (hQ : X.Q = MQ X.below (Qi X.G a post) X.av X.s 0 0 (bs_ X.G)) (hr : X.meth.sig.returnType = (some .boolean)) (hn : X.meth.name = "isWork") (s : Sx) (x1 : Int32) (h : w_X12_isWork N x1 s post) : wk X a s 2 0 [(0, .ref (adr X.G a 6 0)), (1, .int x1)] [] 0 0 := by
  unfold w_X12_isWork at h
  refine k_iload_n hC (pc := 0) dX12_isWork_0 1 rfl ?_
  refine k_if_lt hC (pc := 1) 16 dX12_isWork_1 (by decide) (fun c_1 => ?_) (fun c_1 => ?_)
  · have h := h.1 c_1
    refine k_iconst hC (pc := 16) (v := 0) dX12_isWork_16 ic_0 ?_
    exact k_zret hC (pc := 17) hQ hr dX12_isWork_17 (Or.inl rfl) h
  · have h := h.2 c_1
    refine k_iload_n hC (pc := 4) dX12_isWork_4 1 rfl ?_
    refine k_aload_n hC (pc := 5) dX12_isWork_5 0 rfl ?_
    refine gf_X12_35 hC (pc := 6)  fl_RX12_271 dX12_isWork_6 ?_
    refine k_icmp_ge hC (pc := 9) 16 dX12_isWork_9 (by decide) (fun c_2 => ?_) (fun c_2 => ?_)
    · have h := h.1 c_2
      refine k_iconst hC (pc := 16) (v := 0) dX12_isWork_16 ic_0 ?_
      exact k_zret hC (pc := 17) hQ hr dX12_isWork_17 (Or.inl rfl) h
    · have h := h.2 c_2
      refine k_iconst hC (pc := 12) (v := 1) dX12_isWork_12 ic_1 ?_
      refine k_goto hC (pc := 13) 17 dX12_isWork_13 (by decide) ?_
      exact k_zret hC (pc := 17) hQ hr dX12_isWork_17 (Or.inr rfl) h
theorem ct_X12_isWork {l : Launch} {G : Gx} {a : Ax} {s : Sx} {N : Nat} {post : Int32 → Sx → Prop} (x1 : Int32) (h : w_X12_isWork N x1 s post) : Met l yX12_isWork (Cond.code yX12_isWork cX12_isWork 2 (some .boolean) :: gw) { frames := 0, cells := 0, slots := 0, locals := 0 } (va_Pc [.ref (adr G a 6 0), .int x1] (fun U => FU G a s U)) (Qi G a post) 0 0 (bs_ G) := met_of (plainFor_of_name (by decide)) (Nat.le_of_ble_eq_true rfl) rfl (fun X hC hl hR hQ hr hG hn => by subst hG; exact b_X12_isWork hC hR hQ hr hn s x1 h)
theorem ca_X12_isWork : Ca yX12_isWork cX12_isWork 2 (some .boolean) 1 := ⟨cd_X12_isWork, ii_RX12, by decide, by decide, by decide +kernel⟩
def w_X12_work (N : Nat) (x1 : Int32) (x2 : Int32) (x3 : Int32) (s : Sx) (post : Int32 → Sx → Prop) : Prop := w_X12_isCamp N x1 s (fun r_2 s_1 => (¬ r_2 = 0 → w_X12_within N x2 1 9999 s_1 (fun r_5 s_4 => (r_5 = 0 → post ((-2)) s_4) ∧ (¬ (r_5 = 0) → w_X12_within N x3 0 20 s_4 (fun r_8 s_7 => (¬ r_8 = 0 → (¬ (s_7.1 6 0 35) = 8 → vp_in (s_7.1 6 0 35) 8 ∧ ∀ s_12, s_12 = setI s_7 5 36 (s_7.1 6 0 35).toNatClampNeg x1 → vp_in (s_12.1 6 0 35) 8 ∧ ∀ s_14, s_14 = setI s_12 5 37 (s_12.1 6 0 35).toNatClampNeg x2 → vp_in (s_14.1 6 0 35) 8 ∧ ∀ s_16, s_16 = setI s_14 5 38 (s_14.1 6 0 35).toNatClampNeg 0 → vp_in (s_16.1 6 0 35) 8 ∧ ∀ s_18, s_18 = setI s_16 5 39 (s_16.1 6 0 35).toNatClampNeg x3 → vp_in (s_18.1 6 0 35) 8 ∧ ∀ s_20, s_20 = setI s_18 5 40 (s_18.1 6 0 35).toNatClampNeg 0 → vp_in (s_20.1 6 0 35) 8 ∧ ∀ s_22, s_22 = setI s_20 5 41 (s_20.1 6 0 35).toNatClampNeg 0 → vp_in (s_22.1 6 0 35) 8 ∧ ∀ s_24, s_24 = setI s_22 5 42 (s_22.1 6 0 35).toNatClampNeg 0 → vp_in (s_24.1 6 0 35) 8 ∧ ∀ s_26, s_26 = setI s_24 5 43 (s_24.1 6 0 35).toNatClampNeg 0 → ∀ s_27, s_27 = setI s_26 6 0 35 ((s_26.1 6 0 35) + 1) → post ((s_27.1 6 0 35) - 1) s_27) ∧ (¬ (¬ (s_7.1 6 0 35) = 8) → post ((-4)) s_7)) ∧ (¬ (¬ r_8 = 0) → post ((-2)) s_7))))) ∧ (¬ (¬ r_2 = 0) → post ((-1)) s_1))
set_option maxHeartbeats 4000000 in
theorem b_X12_work {X : Kx} {a : Ax} {N : Nat} {post : Int32 → Sx → Prop} (hC : Cx X cX12_work 4 RX12) (hR : X.R = { frames := 1, cells := 0, slots := 0, locals := 22 }) (hQ : X.Q = MQ X.below (Qi X.G a post) X.av X.s 0 0 (bs_ X.G)) (hr : X.meth.sig.returnType = (some .int)) (hn : X.meth.name = "work") (s : Sx) (x1 : Int32) (x2 : Int32) (x3 : Int32) (h : w_X12_work N x1 x2 x3 s post) : wk X a s 4 0 [(0, .ref (adr X.G a 6 0)), (1, .int x1), (2, .int x2), (3, .int x3)] [] 0 0 := by
  unfold w_X12_work at h
  refine k_aload_n hC (pc := 0) dX12_work_0 0 rfl ?_
  refine k_iload_n hC (pc := 1) dX12_work_1 1 rfl ?_
  refine k_ci (rn_V hC (pc := 2) (As := [.int x1]) (rest := []) ca_X12_isCamp ml_RX12_210 im_X12_isCamp se_X12_isCamp (fx_in f6_0) (ob6_0 _ _ _ _ _) rfl rfl (ct_X12_isCamp x1 h) (by rw [hR]; exact ⟨rfl, rfl, by decide, by decide⟩) rfl (Nat.le_of_ble_eq_true rfl) dX12_work_2 ⟨by rw [hR]; decide, by rw [hR]; decide⟩) (fun r_2 s_1 h => ?_)
  refine k_if_ne hC (pc := 5) 10 dX12_work_5 (by decide) (fun c_3 => ?_) (fun c_3 => ?_)
  · have h := h.1 c_3
    refine k_iload_n hC (pc := 10) dX12_work_10 2 rfl ?_
    refine k_iconst hC (pc := 11) (v := 1) dX12_work_11 ic_1 ?_
    refine k_sipush hC (pc := 12) (v := 9999) dX12_work_12 sp_9999 ?_
    refine k_ci (rn_S hC (pc := 15) (As := [.int x2, .int 1, .int 9999]) (rest := []) ca_X12_within ml_RX12_186 sm_X12_within (ct_X12_within x2 1 9999 h) (by rw [hR]; exact ⟨rfl, rfl, by decide, by decide⟩) rfl (Nat.le_of_ble_eq_true rfl) dX12_work_15 ⟨by rw [hR]; decide, by rw [hR]; decide⟩) (fun r_5 s_4 h => ?_)
    refine k_if_eq hC (pc := 18) 31 dX12_work_18 (by decide) (fun c_6 => ?_) (fun c_6 => ?_)
    · have h := h.1 c_6
      refine k_bipush hC (pc := 31) (v := (-2)) dX12_work_31 bp_m2 ?_
      exact k_iret hC (pc := 33) hQ hr dX12_work_33 h
    · have h := h.2 c_6
      refine k_iload_n hC (pc := 21) dX12_work_21 3 rfl ?_
      refine k_iconst hC (pc := 22) (v := 0) dX12_work_22 ic_0 ?_
      refine k_bipush hC (pc := 23) (v := 20) dX12_work_23 bp_20 ?_
      refine k_ci (rn_S hC (pc := 25) (As := [.int x3, .int 0, .int 20]) (rest := []) ca_X12_within ml_RX12_186 sm_X12_within (ct_X12_within x3 0 20 h) (by rw [hR]; exact ⟨rfl, rfl, by decide, by decide⟩) rfl (Nat.le_of_ble_eq_true rfl) dX12_work_25 ⟨by rw [hR]; decide, by rw [hR]; decide⟩) (fun r_8 s_7 h => ?_)
      refine k_if_ne hC (pc := 28) 34 dX12_work_28 (by decide) (fun c_9 => ?_) (fun c_9 => ?_)
      · have h := h.1 c_9
        refine k_aload_n hC (pc := 34) dX12_work_34 0 rfl ?_
        refine gf_X12_35 hC (pc := 35)  fl_RX12_271 dX12_work_35 ?_
        refine k_bipush hC (pc := 38) (v := 8) dX12_work_38 bp_8 ?_
        refine k_icmp_ne hC (pc := 40) 46 dX12_work_40 (by decide) (fun c_10 => ?_) (fun c_10 => ?_)
        · have h := h.1 c_10
          refine k_aload_n hC (pc := 46) dX12_work_46 0 rfl ?_
          refine gf_X12_36 hC (pc := 47)  fl_RX12_86 dX12_work_47 ?_
          refine k_aload_n hC (pc := 50) dX12_work_50 0 rfl ?_
          refine gf_X12_35 hC (pc := 51)  fl_RX12_271 dX12_work_51 ?_
          refine k_iload_n hC (pc := 54) dX12_work_54 1 rfl ?_
          obtain ⟨c_11, h⟩ := h
          refine r_iast hC (pc := 55) ra5_36 c_11 dX12_work_55 (fun s_12 h_s_12 => ?_)
          have h := h s_12 h_s_12
          refine k_aload_n hC (pc := 56) dX12_work_56 0 rfl ?_
          refine gf_X12_37 hC (pc := 57)  fl_RX12_89 dX12_work_57 ?_
          refine k_aload_n hC (pc := 60) dX12_work_60 0 rfl ?_
          refine gf_X12_35 hC (pc := 61)  fl_RX12_271 dX12_work_61 ?_
          refine k_iload_n hC (pc := 64) dX12_work_64 2 rfl ?_
          obtain ⟨c_13, h⟩ := h
          refine r_iast hC (pc := 65) ra5_37 c_13 dX12_work_65 (fun s_14 h_s_14 => ?_)
          have h := h s_14 h_s_14
          refine k_aload_n hC (pc := 66) dX12_work_66 0 rfl ?_
          refine gf_X12_38 hC (pc := 67)  fl_RX12_92 dX12_work_67 ?_
          refine k_aload_n hC (pc := 70) dX12_work_70 0 rfl ?_
          refine gf_X12_35 hC (pc := 71)  fl_RX12_271 dX12_work_71 ?_
          refine k_iconst hC (pc := 74) (v := 0) dX12_work_74 ic_0 ?_
          obtain ⟨c_15, h⟩ := h
          refine r_iast hC (pc := 75) ra5_38 c_15 dX12_work_75 (fun s_16 h_s_16 => ?_)
          have h := h s_16 h_s_16
          refine k_aload_n hC (pc := 76) dX12_work_76 0 rfl ?_
          refine gf_X12_39 hC (pc := 77)  fl_RX12_95 dX12_work_77 ?_
          refine k_aload_n hC (pc := 80) dX12_work_80 0 rfl ?_
          refine gf_X12_35 hC (pc := 81)  fl_RX12_271 dX12_work_81 ?_
          refine k_iload_n hC (pc := 84) dX12_work_84 3 rfl ?_
          obtain ⟨c_17, h⟩ := h
          refine r_iast hC (pc := 85) ra5_39 c_17 dX12_work_85 (fun s_18 h_s_18 => ?_)
          have h := h s_18 h_s_18
          refine k_aload_n hC (pc := 86) dX12_work_86 0 rfl ?_
          refine gf_X12_40 hC (pc := 87)  fl_RX12_98 dX12_work_87 ?_
          refine k_aload_n hC (pc := 90) dX12_work_90 0 rfl ?_
          refine gf_X12_35 hC (pc := 91)  fl_RX12_271 dX12_work_91 ?_
          refine k_iconst hC (pc := 94) (v := 0) dX12_work_94 ic_0 ?_
          obtain ⟨c_19, h⟩ := h
          refine r_iast hC (pc := 95) ra5_40 c_19 dX12_work_95 (fun s_20 h_s_20 => ?_)
          have h := h s_20 h_s_20
          refine k_aload_n hC (pc := 96) dX12_work_96 0 rfl ?_
          refine gf_X12_41 hC (pc := 97)  fl_RX12_101 dX12_work_97 ?_
          refine k_aload_n hC (pc := 100) dX12_work_100 0 rfl ?_
          refine gf_X12_35 hC (pc := 101)  fl_RX12_271 dX12_work_101 ?_
          refine k_iconst hC (pc := 104) (v := 0) dX12_work_104 ic_0 ?_
          obtain ⟨c_21, h⟩ := h
          refine r_iast hC (pc := 105) ra5_41 c_21 dX12_work_105 (fun s_22 h_s_22 => ?_)
          have h := h s_22 h_s_22
          refine k_aload_n hC (pc := 106) dX12_work_106 0 rfl ?_
          refine gf_X12_42 hC (pc := 107)  fl_RX12_104 dX12_work_107 ?_
          refine k_aload_n hC (pc := 110) dX12_work_110 0 rfl ?_
          refine gf_X12_35 hC (pc := 111)  fl_RX12_271 dX12_work_111 ?_
          refine k_iconst hC (pc := 114) (v := 0) dX12_work_114 ic_0 ?_
          obtain ⟨c_23, h⟩ := h
          refine r_iast hC (pc := 115) ra5_42 c_23 dX12_work_115 (fun s_24 h_s_24 => ?_)
          have h := h s_24 h_s_24
          refine k_aload_n hC (pc := 116) dX12_work_116 0 rfl ?_
          refine gf_X12_43 hC (pc := 117)  fl_RX12_107 dX12_work_117 ?_
          refine k_aload_n hC (pc := 120) dX12_work_120 0 rfl ?_
          refine gf_X12_35 hC (pc := 121)  fl_RX12_271 dX12_work_121 ?_
          refine k_iconst hC (pc := 124) (v := 0) dX12_work_124 ic_0 ?_
          obtain ⟨c_25, h⟩ := h
          refine r_iast hC (pc := 125) ra5_43 c_25 dX12_work_125 (fun s_26 h_s_26 => ?_)
          have h := h s_26 h_s_26
          refine k_aload_n hC (pc := 126) dX12_work_126 0 rfl ?_
          refine k_dup hC (pc := 127) dX12_work_127 rfl ?_
          refine gf_X12_35 hC (pc := 128)  fl_RX12_271 dX12_work_128 ?_
          refine k_iconst hC (pc := 131) (v := 1) dX12_work_131 ic_1 ?_
          refine k_iadd hC (pc := 132) dX12_work_132 ?_
          refine pf_X12_35 hC (pc := 133)  fl_RX12_271 dX12_work_133 (fun s_27 h_s_27 => ?_)
          have h := h s_27 h_s_27
          refine k_aload_n hC (pc := 136) dX12_work_136 0 rfl ?_
          refine gf_X12_35 hC (pc := 137)  fl_RX12_271 dX12_work_137 ?_
          refine k_iconst hC (pc := 140) (v := 1) dX12_work_140 ic_1 ?_
          refine k_isub hC (pc := 141) dX12_work_141 ?_
          exact k_iret hC (pc := 142) hQ hr dX12_work_142 h
        · have h := h.2 c_10
          refine k_bipush hC (pc := 43) (v := (-4)) dX12_work_43 bp_m4 ?_
          exact k_iret hC (pc := 45) hQ hr dX12_work_45 h
      · have h := h.2 c_9
        refine k_bipush hC (pc := 31) (v := (-2)) dX12_work_31 bp_m2 ?_
        exact k_iret hC (pc := 33) hQ hr dX12_work_33 h
  · have h := h.2 c_3
    refine k_iconst hC (pc := 8) (v := (-1)) dX12_work_8 ic_m1 ?_
    exact k_iret hC (pc := 9) hQ hr dX12_work_9 h
theorem ct_X12_work {l : Launch} {G : Gx} {a : Ax} {s : Sx} {N : Nat} {post : Int32 → Sx → Prop} (x1 : Int32) (x2 : Int32) (x3 : Int32) (h : w_X12_work N x1 x2 x3 s post) : Met l yX12_work (Cond.code yX12_work cX12_work 4 (some .int) :: gw) { frames := 1, cells := 0, slots := 0, locals := 22 } (va_Pc [.ref (adr G a 6 0), .int x1, .int x2, .int x3] (fun U => FU G a s U)) (Qi G a post) 0 0 (bs_ G) := met_of (plainFor_of_name (by decide)) (Nat.le_of_ble_eq_true rfl) rfl (fun X hC hl hR hQ hr hG hn => by subst hG; exact b_X12_work hC hR hQ hr hn s x1 x2 x3 h)
theorem ca_X12_work : Ca yX12_work cX12_work 4 (some .int) 3 := ⟨cd_X12_work, ii_RX12, by decide, by decide, by decide +kernel⟩
def w_X12_hands_51 (N : Nat) (post : Int32 → Sx → Prop) (s : Sx) (x1 : Int32) (x2 : Int32) (x3 : Int32) (z0 : Int32) : Prop := (¬ x2 = 0 → vp_in x1 8 ∧ ∀ s_14, s_14 = setI s 5 39 x1.toNatClampNeg x3 → post z0 s_14) ∧ (¬ (¬ x2 = 0) → vp_in x1 8 ∧ ∀ s_16, s_16 = setI s 5 40 x1.toNatClampNeg x3 → post z0 s_16)
def w_X12_hands (N : Nat) (x1 : Int32) (x2 : Int32) (x3 : Int32) (s : Sx) (post : Int32 → Sx → Prop) : Prop := w_X12_isWork N x1 s (fun r_2 s_1 => (¬ r_2 = 0 → w_X12_within N x2 0 1 s_1 (fun r_5 s_4 => (r_5 = 0 → post ((-2)) s_4) ∧ (¬ (r_5 = 0) → w_X12_within N x3 0 20 s_4 (fun r_8 s_7 => (¬ r_8 = 0 → (¬ x2 = 0 → vp_in x1 8 ∧ w_X12_hands_51 N post s_7 x1 x2 x3 (s_7.1 5 39 x1.toNatClampNeg)) ∧ (¬ (¬ x2 = 0) → vp_in x1 8 ∧ w_X12_hands_51 N post s_7 x1 x2 x3 (s_7.1 5 40 x1.toNatClampNeg))) ∧ (¬ (¬ r_8 = 0) → post ((-2)) s_7))))) ∧ (¬ (¬ r_2 = 0) → post ((-1)) s_1))
set_option maxHeartbeats 4000000 in
theorem b_X12_hands_51 {X : Kx} {a : Ax} {N : Nat} {post : Int32 → Sx → Prop}  (hC : Cx X cX12_hands 5 RX12) (hR : X.R = { frames := 1, cells := 0, slots := 0, locals := 22 }) (hQ : X.Q = MQ X.below (Qi X.G a post) X.av X.s 0 0 (bs_ X.G)) (hr : X.meth.sig.returnType = (some .int))   (s : Sx) (x1 : Int32) (x2 : Int32) (x3 : Int32) (z0 : Int32) (h : w_X12_hands_51 N post  s x1 x2 x3 z0) : wk X a s 5 51 [(0, .ref (adr X.G a 6 0)), (1, .int x1), (2, .int x2), (3, .int x3)] [.int z0] 0 0 := by
  unfold w_X12_hands_51 at h
  refine k_istore hC (pc := 51) dX12_hands_51 [(4, .int z0), (0, .ref (adr X.G a 6 0)), (1, .int x1), (2, .int x2), (3, .int x3)] (by decide) rfl ?_
  refine k_iload_n hC (pc := 53) dX12_hands_53 3 rfl ?_
  refine k_if_ne hC (pc := 54) 67 dX12_hands_54 (by decide) (fun c_12 => ?_) (fun c_12 => ?_)
  · have h := h.1 c_12
    refine k_aload_n hC (pc := 67) dX12_hands_67 1 rfl ?_
    refine gf_X12_39 hC (pc := 68)  fl_RX12_95 dX12_hands_68 ?_
    refine k_iload_n hC (pc := 71) dX12_hands_71 2 rfl ?_
    refine k_iload_n hC (pc := 72) dX12_hands_72 4 rfl ?_
    obtain ⟨c_13, h⟩ := h
    refine r_iast hC (pc := 73) ra5_39 c_13 dX12_hands_73 (fun s_14 h_s_14 => ?_)
    have h := h s_14 h_s_14
    refine k_iload hC (pc := 74) dX12_hands_74 0 rfl ?_
    exact k_iret hC (pc := 76) hQ hr dX12_hands_76 h
  · have h := h.2 c_12
    refine k_aload_n hC (pc := 57) dX12_hands_57 1 rfl ?_
    refine gf_X12_40 hC (pc := 58)  fl_RX12_98 dX12_hands_58 ?_
    refine k_iload_n hC (pc := 61) dX12_hands_61 2 rfl ?_
    refine k_iload_n hC (pc := 62) dX12_hands_62 4 rfl ?_
    obtain ⟨c_15, h⟩ := h
    refine r_iast hC (pc := 63) ra5_40 c_15 dX12_hands_63 (fun s_16 h_s_16 => ?_)
    have h := h s_16 h_s_16
    refine k_goto hC (pc := 64) 74 dX12_hands_64 (by decide) ?_
    refine k_iload hC (pc := 74) dX12_hands_74 0 rfl ?_
    exact k_iret hC (pc := 76) hQ hr dX12_hands_76 h
set_option maxHeartbeats 4000000 in
theorem b_X12_hands {X : Kx} {a : Ax} {N : Nat} {post : Int32 → Sx → Prop} (hC : Cx X cX12_hands 5 RX12) (hR : X.R = { frames := 1, cells := 0, slots := 0, locals := 22 }) (hQ : X.Q = MQ X.below (Qi X.G a post) X.av X.s 0 0 (bs_ X.G)) (hr : X.meth.sig.returnType = (some .int)) (hn : X.meth.name = "hands") (s : Sx) (x1 : Int32) (x2 : Int32) (x3 : Int32) (h : w_X12_hands N x1 x2 x3 s post) : wk X a s 5 0 [(0, .ref (adr X.G a 6 0)), (1, .int x1), (2, .int x2), (3, .int x3)] [] 0 0 := by
  unfold w_X12_hands at h
  refine k_aload_n hC (pc := 0) dX12_hands_0 0 rfl ?_
  refine k_iload_n hC (pc := 1) dX12_hands_1 1 rfl ?_
  refine k_ci (rn_V hC (pc := 2) (As := [.int x1]) (rest := []) ca_X12_isWork ml_RX12_274 im_X12_isWork se_X12_isWork (fx_in f6_0) (ob6_0 _ _ _ _ _) rfl rfl (ct_X12_isWork x1 h) (by rw [hR]; exact ⟨rfl, rfl, by decide, by decide⟩) rfl (Nat.le_of_ble_eq_true rfl) dX12_hands_2 ⟨by rw [hR]; decide, by rw [hR]; decide⟩) (fun r_2 s_1 h => ?_)
  refine k_if_ne hC (pc := 5) 10 dX12_hands_5 (by decide) (fun c_3 => ?_) (fun c_3 => ?_)
  · have h := h.1 c_3
    refine k_iload_n hC (pc := 10) dX12_hands_10 2 rfl ?_
    refine k_iconst hC (pc := 11) (v := 0) dX12_hands_11 ic_0 ?_
    refine k_iconst hC (pc := 12) (v := 1) dX12_hands_12 ic_1 ?_
    refine k_ci (rn_S hC (pc := 13) (As := [.int x2, .int 0, .int 1]) (rest := []) ca_X12_within ml_RX12_186 sm_X12_within (ct_X12_within x2 0 1 h) (by rw [hR]; exact ⟨rfl, rfl, by decide, by decide⟩) rfl (Nat.le_of_ble_eq_true rfl) dX12_hands_13 ⟨by rw [hR]; decide, by rw [hR]; decide⟩) (fun r_5 s_4 h => ?_)
    refine k_if_eq hC (pc := 16) 29 dX12_hands_16 (by decide) (fun c_6 => ?_) (fun c_6 => ?_)
    · have h := h.1 c_6
      refine k_bipush hC (pc := 29) (v := (-2)) dX12_hands_29 bp_m2 ?_
      exact k_iret hC (pc := 31) hQ hr dX12_hands_31 h
    · have h := h.2 c_6
      refine k_iload_n hC (pc := 19) dX12_hands_19 3 rfl ?_
      refine k_iconst hC (pc := 20) (v := 0) dX12_hands_20 ic_0 ?_
      refine k_bipush hC (pc := 21) (v := 20) dX12_hands_21 bp_20 ?_
      refine k_ci (rn_S hC (pc := 23) (As := [.int x3, .int 0, .int 20]) (rest := []) ca_X12_within ml_RX12_186 sm_X12_within (ct_X12_within x3 0 20 h) (by rw [hR]; exact ⟨rfl, rfl, by decide, by decide⟩) rfl (Nat.le_of_ble_eq_true rfl) dX12_hands_23 ⟨by rw [hR]; decide, by rw [hR]; decide⟩) (fun r_8 s_7 h => ?_)
      refine k_if_ne hC (pc := 26) 32 dX12_hands_26 (by decide) (fun c_9 => ?_) (fun c_9 => ?_)
      · have h := h.1 c_9
        refine k_iload_n hC (pc := 32) dX12_hands_32 2 rfl ?_
        refine k_if_ne hC (pc := 33) 45 dX12_hands_33 (by decide) (fun c_10 => ?_) (fun c_10 => ?_)
        · have h := h.1 c_10
          refine k_aload_n hC (pc := 45) dX12_hands_45 0 rfl ?_
          refine gf_X12_39 hC (pc := 46)  fl_RX12_95 dX12_hands_46 ?_
          refine k_iload_n hC (pc := 49) dX12_hands_49 1 rfl ?_
          obtain ⟨c_11, h⟩ := h
          refine r_iald hC (pc := 50) ra5_39 c_11 dX12_hands_50 ?_
          exact b_X12_hands_51 hC hR hQ hr _ _ _ _ _ h
        · have h := h.2 c_10
          refine k_aload_n hC (pc := 36) dX12_hands_36 0 rfl ?_
          refine gf_X12_40 hC (pc := 37)  fl_RX12_98 dX12_hands_37 ?_
          refine k_iload_n hC (pc := 40) dX12_hands_40 1 rfl ?_
          obtain ⟨c_17, h⟩ := h
          refine r_iald hC (pc := 41) ra5_40 c_17 dX12_hands_41 ?_
          refine k_goto hC (pc := 42) 51 dX12_hands_42 (by decide) ?_
          exact b_X12_hands_51 hC hR hQ hr _ _ _ _ _ h
      · have h := h.2 c_9
        refine k_bipush hC (pc := 29) (v := (-2)) dX12_hands_29 bp_m2 ?_
        exact k_iret hC (pc := 31) hQ hr dX12_hands_31 h
  · have h := h.2 c_3
    refine k_iconst hC (pc := 8) (v := (-1)) dX12_hands_8 ic_m1 ?_
    exact k_iret hC (pc := 9) hQ hr dX12_hands_9 h
theorem ct_X12_hands {l : Launch} {G : Gx} {a : Ax} {s : Sx} {N : Nat} {post : Int32 → Sx → Prop} (x1 : Int32) (x2 : Int32) (x3 : Int32) (h : w_X12_hands N x1 x2 x3 s post) : Met l yX12_hands (Cond.code yX12_hands cX12_hands 5 (some .int) :: gw) { frames := 1, cells := 0, slots := 0, locals := 22 } (va_Pc [.ref (adr G a 6 0), .int x1, .int x2, .int x3] (fun U => FU G a s U)) (Qi G a post) 0 0 (bs_ G) := met_of (plainFor_of_name (by decide)) (Nat.le_of_ble_eq_true rfl) rfl (fun X hC hl hR hQ hr hG hn => by subst hG; exact b_X12_hands hC hR hQ hr hn s x1 x2 x3 h)
theorem ca_X12_hands : Ca yX12_hands cX12_hands 5 (some .int) 3 := ⟨cd_X12_hands, ii_RX12, by decide, by decide, by decide +kernel⟩
def w_X12_row_160 (N : Nat) (post : Int32 → Sx → Prop) : Nat → Sx → Int32 → Int32 → Int32 → Int32 → Prop
  | 0, _, _, _, _, _ => False
  | n + 1, s, x1, x5, x7, x8 => (x5 ≤ x8 → post x5 s) ∧ (¬ (x5 ≤ x8) → (¬ x1 = 0 → vp_in (x7 + x8) 240 ∧ vp_in x8 24 ∧ ∀ s_24, s_24 = setI s 5 49 x8.toNatClampNeg (s.1 5 4 (x7 + x8).toNatClampNeg) → ∀ x_25 : Int32, x_25 = x8 + 1 → w_X12_row_160 N post n s_24 x1 x5 x7 x_25) ∧ (¬ (¬ x1 = 0) → vp_in (x7 + x8) 240 ∧ vp_in x8 8 ∧ ∀ s_28, s_28 = setI s 5 44 x8.toNatClampNeg (s.1 5 4 (x7 + x8).toNatClampNeg) → ∀ x_29 : Int32, x_29 = x8 + 1 → w_X12_row_160 N post n s_28 x1 x5 x7 x_29))
def w_X12_row_154 (N : Nat) (post : Int32 → Sx → Prop) (s : Sx) (x1 : Int32) (x5 : Int32) (x7 : Int32) (z1 : Int32) : Prop := ∀ s_19, s_19 = setI s 6 0 45 z1 → w_X12_row_160 N post N s_19 x1 x5 x7 0
def w_X12_row_125 (N : Nat) (post : Int32 → Sx → Prop) (K97 : Sx → Int32 → Int32 → Int32 → Int32 → Prop) (s : Sx) (x1 : Int32) (x5 : Int32) (x7 : Int32) (x8 : Int32) (z0 : Int32) (z1 : Int32) (z2 : Int32) : Prop := w_X12_within N z0 z1 z2 s (fun r_33 s_32 => (¬ r_33 = 0 → ∀ x_35 : Int32, x_35 = x8 + 1 → K97 s_32 x1 x5 x7 x_35) ∧ (¬ (¬ r_33 = 0) → post ((-2)) s_32))
def w_X12_row_97 (N : Nat) (post : Int32 → Sx → Prop) : Nat → Sx → Int32 → Int32 → Int32 → Int32 → Prop
  | 0, _, _, _, _, _ => False
  | n + 1, s, x1, x5, x7, x8 => (x5 ≤ x8 → (¬ x1 = 0 → w_X12_row_154 N post s x1 x5 x7 (s.1 6 0 45)) ∧ (¬ (¬ x1 = 0) → w_X12_row_154 N post s x1 x5 x7 x5)) ∧ (¬ (x5 ≤ x8) → vp_in (x7 + x8) 240 ∧ (¬ x1 = 0 → w_X12_row_125 N post (w_X12_row_97 N post n) s x1 x5 x7 x8 (s.1 5 4 (x7 + x8).toNatClampNeg) 0 100) ∧ (¬ (¬ x1 = 0) → w_X12_row_125 N post (w_X12_row_97 N post n) s x1 x5 x7 x8 (s.1 5 4 (x7 + x8).toNatClampNeg) 0 2))
def w_X12_row_85 (N : Nat) (post : Int32 → Sx → Prop) (s : Sx) (x1 : Int32) (x2 : Int32) (x4 : Int32) (x5 : Int32) : Prop := ∀ x_16 : Int32, x_16 = (60 * x2) + x4 → w_X12_row_97 N post N s x1 x5 x_16 0
def w_X12_row (N : Nat) (x1 : Int32) (x2 : Int32) (x3 : Int32) (x4 : Int32) (x5 : Int32) (s : Sx) (post : Int32 → Sx → Prop) : Prop := ∀ s_1, s_1 = setI s 6 0 0 0 → w_X12_isSheet N x2 s_1 (fun r_3 s_2 => (¬ r_3 = 0 → w_X12_within N x1 0 1 s_2 (fun r_6 s_5 => (r_6 = 0 → post ((-2)) s_5) ∧ (¬ (r_6 = 0) → w_X12_isLane N x3 s_5 (fun r_9 s_8 => (¬ r_9 = 0 → w_X12_against N x2 x3 x4 x5 s_8 (fun r_12 s_11 => (r_12 = 0 → (¬ x1 = 0 → (x5 = 24 → w_X12_row_85 N post s_11 x1 x2 x4 x5) ∧ (¬ (x5 = 24) → post ((-2)) s_11)) ∧ (¬ (¬ x1 = 0) → w_X12_within N x5 1 8 s_11 (fun r_37 s_36 => (¬ r_37 = 0 → w_X12_row_85 N post s_36 x1 x2 x4 x5) ∧ (¬ (¬ r_37 = 0) → post ((-2)) s_36)))) ∧ (¬ (r_12 = 0) → w_X12_fails N r_12 s_11 (fun r_40 s_39 => post r_40 s_39)))) ∧ (¬ (¬ r_9 = 0) → post ((-2)) s_8))))) ∧ (¬ (¬ r_3 = 0) → post ((-1)) s_2))
set_option maxHeartbeats 4000000 in
theorem b_X12_row_160 {X : Kx} {a : Ax} {N : Nat} {post : Int32 → Sx → Prop}  (hC : Cx X cX12_row 9 RX12) (hR : X.R = { frames := 2, cells := 0, slots := 0, locals := 42 }) (hQ : X.Q = MQ X.below (Qi X.G a post) X.av X.s 0 0 (bs_ X.G)) (hr : X.meth.sig.returnType = (some .int))   : ∀ (n : Nat) (s : Sx) (x1 : Int32) (x5 : Int32) (x7 : Int32) (x8 : Int32), w_X12_row_160 N post  n s x1 x5 x7 x8 → wk X a s 9 160 [(0, .ref (adr X.G a 6 0)), (1, .int x1), (5, .int x5), (7, .int x7), (8, .int x8)] [] 0 0 := by
  intro n
  induction n with
  | zero => intro s x1 x5 x7 x8 h; exact h.elim
  | succ n ih =>
    intro s x1 x5 x7 x8 h
    unfold w_X12_row_160 at h
    refine k_iload hC (pc := 160) dX12_row_160 4 rfl ?_
    refine k_iload hC (pc := 162) dX12_row_162 2 rfl ?_
    refine k_icmp_ge hC (pc := 164) 214 dX12_row_164 (by decide) (fun c_20 => ?_) (fun c_20 => ?_)
    · have h := h.1 c_20
      refine k_iload hC (pc := 214) dX12_row_214 2 rfl ?_
      exact k_iret hC (pc := 216) hQ hr dX12_row_216 h
    · have h := h.2 c_20
      refine k_iload_n hC (pc := 167) dX12_row_167 1 rfl ?_
      refine k_if_ne hC (pc := 168) 191 dX12_row_168 (by decide) (fun c_21 => ?_) (fun c_21 => ?_)
      · have h := h.1 c_21
        refine k_aload_n hC (pc := 191) dX12_row_191 0 rfl ?_
        refine gf_X12_49 hC (pc := 192)  fl_RX12_122 dX12_row_192 ?_
        refine k_iload hC (pc := 195) dX12_row_195 4 rfl ?_
        refine k_aload_n hC (pc := 197) dX12_row_197 0 rfl ?_
        refine gf_X12_4 hC (pc := 198)  fl_RX12_16 dX12_row_198 ?_
        refine k_iload hC (pc := 201) dX12_row_201 3 rfl ?_
        refine k_iload hC (pc := 203) dX12_row_203 4 rfl ?_
        refine k_iadd hC (pc := 205) dX12_row_205 ?_
        obtain ⟨c_22, h⟩ := h
        refine r_iald hC (pc := 206) ra5_4 c_22 dX12_row_206 ?_
        obtain ⟨c_23, h⟩ := h
        refine r_iast hC (pc := 207) ra5_49 c_23 dX12_row_207 (fun s_24 h_s_24 => ?_)
        have h := h s_24 h_s_24
        obtain ⟨x_25, h_x_25⟩ : ∃ z : Int32, z = x8 + 1 := ⟨_, rfl⟩
        have h := h x_25 h_x_25
        refine k_iincw hC (pc := 208) dX12_row_208 4 rfl ic_1 h_x_25.symm [(8, .int x_25), (0, .ref (adr X.G a 6 0)), (1, .int x1), (5, .int x5), (7, .int x7)] (by decide) rfl ?_
        refine k_goto hC (pc := 211) 160 dX12_row_211 (by decide) ?_
        refine k_sub [(0, .ref (adr X.G a 6 0)), (1, .int x1), (5, .int x5), (7, .int x7), (8, .int x_25)] [1, 2, 3, 4, 0] rfl ?_
        exact ih _ _ _ _ _ h
      · have h := h.2 c_21
        refine k_aload_n hC (pc := 171) dX12_row_171 0 rfl ?_
        refine gf_X12_44 hC (pc := 172)  fl_RX12_110 dX12_row_172 ?_
        refine k_iload hC (pc := 175) dX12_row_175 4 rfl ?_
        refine k_aload_n hC (pc := 177) dX12_row_177 0 rfl ?_
        refine gf_X12_4 hC (pc := 178)  fl_RX12_16 dX12_row_178 ?_
        refine k_iload hC (pc := 181) dX12_row_181 3 rfl ?_
        refine k_iload hC (pc := 183) dX12_row_183 4 rfl ?_
        refine k_iadd hC (pc := 185) dX12_row_185 ?_
        obtain ⟨c_26, h⟩ := h
        refine r_iald hC (pc := 186) ra5_4 c_26 dX12_row_186 ?_
        obtain ⟨c_27, h⟩ := h
        refine r_iast hC (pc := 187) ra5_44 c_27 dX12_row_187 (fun s_28 h_s_28 => ?_)
        have h := h s_28 h_s_28
        refine k_goto hC (pc := 188) 208 dX12_row_188 (by decide) ?_
        obtain ⟨x_29, h_x_29⟩ : ∃ z : Int32, z = x8 + 1 := ⟨_, rfl⟩
        have h := h x_29 h_x_29
        refine k_iincw hC (pc := 208) dX12_row_208 4 rfl ic_1 h_x_29.symm [(8, .int x_29), (0, .ref (adr X.G a 6 0)), (1, .int x1), (5, .int x5), (7, .int x7)] (by decide) rfl ?_
        refine k_goto hC (pc := 211) 160 dX12_row_211 (by decide) ?_
        refine k_sub [(0, .ref (adr X.G a 6 0)), (1, .int x1), (5, .int x5), (7, .int x7), (8, .int x_29)] [1, 2, 3, 4, 0] rfl ?_
        exact ih _ _ _ _ _ h
set_option maxHeartbeats 4000000 in
theorem b_X12_row_154 {X : Kx} {a : Ax} {N : Nat} {post : Int32 → Sx → Prop}  (hC : Cx X cX12_row 9 RX12) (hR : X.R = { frames := 2, cells := 0, slots := 0, locals := 42 }) (hQ : X.Q = MQ X.below (Qi X.G a post) X.av X.s 0 0 (bs_ X.G)) (hr : X.meth.sig.returnType = (some .int))   (s : Sx) (x1 : Int32) (x5 : Int32) (x7 : Int32) (z1 : Int32) (h : w_X12_row_154 N post  s x1 x5 x7 z1) : wk X a s 9 154 [(0, .ref (adr X.G a 6 0)), (1, .int x1), (5, .int x5), (7, .int x7)] [.int z1, .ref (adr X.G a 6 0)] 0 0 := by
  unfold w_X12_row_154 at h
  refine pf_X12_45 hC (pc := 154)  fl_RX12_113 dX12_row_154 (fun s_19 h_s_19 => ?_)
  have h := h s_19 h_s_19
  refine k_iconst hC (pc := 157) (v := 0) dX12_row_157 ic_0 ?_
  refine k_istore hC (pc := 158) dX12_row_158 [(8, .int 0), (0, .ref (adr X.G a 6 0)), (1, .int x1), (5, .int x5), (7, .int x7)] (by decide) rfl ?_
  refine k_sub [(0, .ref (adr X.G a 6 0)), (1, .int x1), (5, .int x5), (7, .int x7), (8, .int 0)] [1, 2, 3, 4, 0] rfl ?_
  exact b_X12_row_160 hC hR hQ hr N _ _ _ _ _ h
set_option maxHeartbeats 4000000 in
theorem b_X12_row_125 {X : Kx} {a : Ax} {N : Nat} {post : Int32 → Sx → Prop} {K97 : Sx → Int32 → Int32 → Int32 → Int32 → Prop}  (hC : Cx X cX12_row 9 RX12) (hR : X.R = { frames := 2, cells := 0, slots := 0, locals := 42 }) (hQ : X.Q = MQ X.below (Qi X.G a post) X.av X.s 0 0 (bs_ X.G)) (hr : X.meth.sig.returnType = (some .int))  (hK97 : ∀ (s : Sx) (x1 : Int32) (x5 : Int32) (x7 : Int32) (x8 : Int32), K97 s x1 x5 x7 x8 → wk X a s 9 97 [(0, .ref (adr X.G a 6 0)), (1, .int x1), (5, .int x5), (7, .int x7), (8, .int x8)] [] 0 0) (s : Sx) (x1 : Int32) (x5 : Int32) (x7 : Int32) (x8 : Int32) (z0 : Int32) (z1 : Int32) (z2 : Int32) (h : w_X12_row_125 N post K97 s x1 x5 x7 x8 z0 z1 z2) : wk X a s 9 125 [(0, .ref (adr X.G a 6 0)), (1, .int x1), (5, .int x5), (7, .int x7), (8, .int x8)] [.int z2, .int z1, .int z0] 0 0 := by
  unfold w_X12_row_125 at h
  refine k_ci (rn_S hC (pc := 125) (As := [.int z0, .int z1, .int z2]) (rest := []) ca_X12_within ml_RX12_186 sm_X12_within (ct_X12_within z0 z1 z2 h) (by rw [hR]; exact ⟨rfl, rfl, by decide, by decide⟩) rfl (Nat.le_of_ble_eq_true rfl) dX12_row_125 ⟨by rw [hR]; decide, by rw [hR]; decide⟩) (fun r_33 s_32 h => ?_)
  refine k_if_ne hC (pc := 128) 134 dX12_row_128 (by decide) (fun c_34 => ?_) (fun c_34 => ?_)
  · have h := h.1 c_34
    obtain ⟨x_35, h_x_35⟩ : ∃ z : Int32, z = x8 + 1 := ⟨_, rfl⟩
    have h := h x_35 h_x_35
    refine k_iincw hC (pc := 134) dX12_row_134 4 rfl ic_1 h_x_35.symm [(8, .int x_35), (0, .ref (adr X.G a 6 0)), (1, .int x1), (5, .int x5), (7, .int x7)] (by decide) rfl ?_
    refine k_goto hC (pc := 137) 97 dX12_row_137 (by decide) ?_
    refine k_sub [(0, .ref (adr X.G a 6 0)), (1, .int x1), (5, .int x5), (7, .int x7), (8, .int x_35)] [1, 2, 3, 4, 0] rfl ?_
    exact hK97 _ _ _ _ _ h
  · have h := h.2 c_34
    refine k_bipush hC (pc := 131) (v := (-2)) dX12_row_131 bp_m2 ?_
    exact k_iret hC (pc := 133) hQ hr dX12_row_133 h
set_option maxHeartbeats 4000000 in
theorem b_X12_row_97 {X : Kx} {a : Ax} {N : Nat} {post : Int32 → Sx → Prop}  (hC : Cx X cX12_row 9 RX12) (hR : X.R = { frames := 2, cells := 0, slots := 0, locals := 42 }) (hQ : X.Q = MQ X.below (Qi X.G a post) X.av X.s 0 0 (bs_ X.G)) (hr : X.meth.sig.returnType = (some .int))   : ∀ (n : Nat) (s : Sx) (x1 : Int32) (x5 : Int32) (x7 : Int32) (x8 : Int32), w_X12_row_97 N post  n s x1 x5 x7 x8 → wk X a s 9 97 [(0, .ref (adr X.G a 6 0)), (1, .int x1), (5, .int x5), (7, .int x7), (8, .int x8)] [] 0 0 := by
  intro n
  induction n with
  | zero => intro s x1 x5 x7 x8 h; exact h.elim
  | succ n ih =>
    intro s x1 x5 x7 x8 h
    unfold w_X12_row_97 at h
    refine k_iload hC (pc := 97) dX12_row_97 4 rfl ?_
    refine k_iload hC (pc := 99) dX12_row_99 2 rfl ?_
    refine k_icmp_ge hC (pc := 101) 140 dX12_row_101 (by decide) (fun c_17 => ?_) (fun c_17 => ?_)
    · have h := h.1 c_17
      refine k_aload_n hC (pc := 140) dX12_row_140 0 rfl ?_
      refine k_iload_n hC (pc := 141) dX12_row_141 1 rfl ?_
      refine k_if_ne hC (pc := 142) 150 dX12_row_142 (by decide) (fun c_18 => ?_) (fun c_18 => ?_)
      · have h := h.1 c_18
        refine k_aload_n hC (pc := 150) dX12_row_150 0 rfl ?_
        refine gf_X12_45 hC (pc := 151)  fl_RX12_113 dX12_row_151 ?_
        refine k_sub [(0, .ref (adr X.G a 6 0)), (1, .int x1), (5, .int x5), (7, .int x7)] [0, 1, 2, 3] rfl ?_
        exact b_X12_row_154 hC hR hQ hr _ _ _ _ _ h
      · have h := h.2 c_18
        refine k_iload hC (pc := 145) dX12_row_145 2 rfl ?_
        refine k_goto hC (pc := 147) 154 dX12_row_147 (by decide) ?_
        refine k_sub [(0, .ref (adr X.G a 6 0)), (1, .int x1), (5, .int x5), (7, .int x7)] [0, 1, 2, 3] rfl ?_
        exact b_X12_row_154 hC hR hQ hr _ _ _ _ _ h
    · have h := h.2 c_17
      refine k_aload_n hC (pc := 104) dX12_row_104 0 rfl ?_
      refine gf_X12_4 hC (pc := 105)  fl_RX12_16 dX12_row_105 ?_
      refine k_iload hC (pc := 108) dX12_row_108 3 rfl ?_
      refine k_iload hC (pc := 110) dX12_row_110 4 rfl ?_
      refine k_iadd hC (pc := 112) dX12_row_112 ?_
      obtain ⟨c_30, h⟩ := h
      refine r_iald hC (pc := 113) ra5_4 c_30 dX12_row_113 ?_
      refine k_iconst hC (pc := 114) (v := 0) dX12_row_114 ic_0 ?_
      refine k_iload_n hC (pc := 115) dX12_row_115 1 rfl ?_
      refine k_if_ne hC (pc := 116) 123 dX12_row_116 (by decide) (fun c_31 => ?_) (fun c_31 => ?_)
      · have h := h.1 c_31
        refine k_bipush hC (pc := 123) (v := 100) dX12_row_123 bp_100 ?_
        exact b_X12_row_125 hC hR hQ hr ih _ _ _ _ _ _ _ _ h
      · have h := h.2 c_31
        refine k_iconst hC (pc := 119) (v := 2) dX12_row_119 ic_2 ?_
        refine k_goto hC (pc := 120) 125 dX12_row_120 (by decide) ?_
        exact b_X12_row_125 hC hR hQ hr ih _ _ _ _ _ _ _ _ h
set_option maxHeartbeats 4000000 in
theorem b_X12_row_85 {X : Kx} {a : Ax} {N : Nat} {post : Int32 → Sx → Prop}  (hC : Cx X cX12_row 9 RX12) (hR : X.R = { frames := 2, cells := 0, slots := 0, locals := 42 }) (hQ : X.Q = MQ X.below (Qi X.G a post) X.av X.s 0 0 (bs_ X.G)) (hr : X.meth.sig.returnType = (some .int))   (s : Sx) (x1 : Int32) (x2 : Int32) (x4 : Int32) (x5 : Int32) (h : w_X12_row_85 N post  s x1 x2 x4 x5) : wk X a s 9 85 [(0, .ref (adr X.G a 6 0)), (1, .int x1), (2, .int x2), (4, .int x4), (5, .int x5)] [] 0 0 := by
  unfold w_X12_row_85 at h
  refine k_bipush hC (pc := 85) (v := 60) dX12_row_85 bp_60 ?_
  refine k_iload_n hC (pc := 87) dX12_row_87 2 rfl ?_
  refine k_imul hC (pc := 88) dX12_row_88 ?_
  refine k_iload hC (pc := 89) dX12_row_89 3 rfl ?_
  refine k_iadd hC (pc := 91) dX12_row_91 ?_
  refine k_topi (fun x_16 h_x_16 => ?_)
  have h := h x_16 h_x_16
  refine k_istore hC (pc := 92) dX12_row_92 [(7, .int x_16), (0, .ref (adr X.G a 6 0)), (1, .int x1), (2, .int x2), (4, .int x4), (5, .int x5)] (by decide) rfl ?_
  refine k_iconst hC (pc := 94) (v := 0) dX12_row_94 ic_0 ?_
  refine k_istore hC (pc := 95) dX12_row_95 [(8, .int 0), (7, .int x_16), (0, .ref (adr X.G a 6 0)), (1, .int x1), (2, .int x2), (4, .int x4), (5, .int x5)] (by decide) rfl ?_
  refine k_sub [(0, .ref (adr X.G a 6 0)), (1, .int x1), (5, .int x5), (7, .int x_16), (8, .int 0)] [2, 3, 6, 1, 0] rfl ?_
  exact b_X12_row_97 hC hR hQ hr N _ _ _ _ _ h
set_option maxHeartbeats 4000000 in
theorem b_X12_row {X : Kx} {a : Ax} {N : Nat} {post : Int32 → Sx → Prop} (hC : Cx X cX12_row 9 RX12) (hR : X.R = { frames := 2, cells := 0, slots := 0, locals := 42 }) (hQ : X.Q = MQ X.below (Qi X.G a post) X.av X.s 0 0 (bs_ X.G)) (hr : X.meth.sig.returnType = (some .int)) (hn : X.meth.name = "row") (s : Sx) (x1 : Int32) (x2 : Int32) (x3 : Int32) (x4 : Int32) (x5 : Int32) (h : w_X12_row N x1 x2 x3 x4 x5 s post) : wk X a s 9 0 [(0, .ref (adr X.G a 6 0)), (1, .int x1), (2, .int x2), (3, .int x3), (4, .int x4), (5, .int x5)] [] 0 0 := by
  unfold w_X12_row at h
  refine k_aload_n hC (pc := 0) dX12_row_0 0 rfl ?_
  refine k_iconst hC (pc := 1) (v := 0) dX12_row_1 ic_0 ?_
  refine pf_X12_0 hC (pc := 2)  fl_RX12_181 dX12_row_2 (fun s_1 h_s_1 => ?_)
  have h := h s_1 h_s_1
  refine k_iload_n hC (pc := 5) dX12_row_5 2 rfl ?_
  refine k_ci (rn_S hC (pc := 6) (As := [.int x2]) (rest := []) ca_X12_isSheet ml_RX12_239 sm_X12_isSheet (ct_X12_isSheet x2 h) (by rw [hR]; exact ⟨rfl, rfl, by decide, by decide⟩) rfl (Nat.le_of_ble_eq_true rfl) dX12_row_6 ⟨by rw [hR]; decide, by rw [hR]; decide⟩) (fun r_3 s_2 h => ?_)
  refine k_if_ne hC (pc := 9) 14 dX12_row_9 (by decide) (fun c_4 => ?_) (fun c_4 => ?_)
  · have h := h.1 c_4
    refine k_iload_n hC (pc := 14) dX12_row_14 1 rfl ?_
    refine k_iconst hC (pc := 15) (v := 0) dX12_row_15 ic_0 ?_
    refine k_iconst hC (pc := 16) (v := 1) dX12_row_16 ic_1 ?_
    refine k_ci (rn_S hC (pc := 17) (As := [.int x1, .int 0, .int 1]) (rest := []) ca_X12_within ml_RX12_186 sm_X12_within (ct_X12_within x1 0 1 h) (by rw [hR]; exact ⟨rfl, rfl, by decide, by decide⟩) rfl (Nat.le_of_ble_eq_true rfl) dX12_row_17 ⟨by rw [hR]; decide, by rw [hR]; decide⟩) (fun r_6 s_5 h => ?_)
    refine k_if_eq hC (pc := 20) 30 dX12_row_20 (by decide) (fun c_7 => ?_) (fun c_7 => ?_)
    · have h := h.1 c_7
      refine k_bipush hC (pc := 30) (v := (-2)) dX12_row_30 bp_m2 ?_
      exact k_iret hC (pc := 32) hQ hr dX12_row_32 h
    · have h := h.2 c_7
      refine k_iload_n hC (pc := 23) dX12_row_23 3 rfl ?_
      refine k_ci (rn_S hC (pc := 24) (As := [.int x3]) (rest := []) ca_X12_isLane ml_RX12_242 sm_X12_isLane (ct_X12_isLane x3 h) (by rw [hR]; exact ⟨rfl, rfl, by decide, by decide⟩) rfl (Nat.le_of_ble_eq_true rfl) dX12_row_24 ⟨by rw [hR]; decide, by rw [hR]; decide⟩) (fun r_9 s_8 h => ?_)
      refine k_if_ne hC (pc := 27) 33 dX12_row_27 (by decide) (fun c_10 => ?_) (fun c_10 => ?_)
      · have h := h.1 c_10
        refine k_aload_n hC (pc := 33) dX12_row_33 0 rfl ?_
        refine k_iload_n hC (pc := 34) dX12_row_34 2 rfl ?_
        refine k_iload_n hC (pc := 35) dX12_row_35 3 rfl ?_
        refine k_iload hC (pc := 36) dX12_row_36 4 rfl ?_
        refine k_iload hC (pc := 38) dX12_row_38 5 rfl ?_
        refine k_ci (rn_V hC (pc := 40) (As := [.int x2, .int x3, .int x4, .int x5]) (rest := []) ca_X12_against ml_RX12_245 im_X12_against se_X12_against (fx_in f6_0) (ob6_0 _ _ _ _ _) rfl rfl (ct_X12_against x2 x3 x4 x5 h) (by rw [hR]; exact ⟨rfl, rfl, by decide, by decide⟩) rfl (Nat.le_of_ble_eq_true rfl) dX12_row_40 ⟨by rw [hR]; decide, by rw [hR]; decide⟩) (fun r_12 s_11 h => ?_)
        refine k_istore hC (pc := 43) dX12_row_43 [(6, .int r_12), (0, .ref (adr X.G a 6 0)), (1, .int x1), (2, .int x2), (3, .int x3), (4, .int x4), (5, .int x5)] (by decide) rfl ?_
        refine k_iload hC (pc := 45) dX12_row_45 0 rfl ?_
        refine k_if_eq hC (pc := 47) 57 dX12_row_47 (by decide) (fun c_13 => ?_) (fun c_13 => ?_)
        · have h := h.1 c_13
          refine k_iload_n hC (pc := 57) dX12_row_57 2 rfl ?_
          refine k_if_ne hC (pc := 58) 75 dX12_row_58 (by decide) (fun c_14 => ?_) (fun c_14 => ?_)
          · have h := h.1 c_14
            refine k_iload hC (pc := 75) dX12_row_75 6 rfl ?_
            refine k_bipush hC (pc := 77) (v := 24) dX12_row_77 bp_24 ?_
            refine k_icmp_eq hC (pc := 79) 85 dX12_row_79 (by decide) (fun c_15 => ?_) (fun c_15 => ?_)
            · have h := h.1 c_15
              refine k_sub [(0, .ref (adr X.G a 6 0)), (1, .int x1), (2, .int x2), (4, .int x4), (5, .int x5)] [1, 2, 3, 5, 6] rfl ?_
              exact b_X12_row_85 hC hR hQ hr _ _ _ _ _ h
            · have h := h.2 c_15
              refine k_bipush hC (pc := 82) (v := (-2)) dX12_row_82 bp_m2 ?_
              exact k_iret hC (pc := 84) hQ hr dX12_row_84 h
          · have h := h.2 c_14
            refine k_iload hC (pc := 61) dX12_row_61 6 rfl ?_
            refine k_iconst hC (pc := 63) (v := 1) dX12_row_63 ic_1 ?_
            refine k_bipush hC (pc := 64) (v := 8) dX12_row_64 bp_8 ?_
            refine k_ci (rn_S hC (pc := 66) (As := [.int x5, .int 1, .int 8]) (rest := []) ca_X12_within ml_RX12_186 sm_X12_within (ct_X12_within x5 1 8 h) (by rw [hR]; exact ⟨rfl, rfl, by decide, by decide⟩) rfl (Nat.le_of_ble_eq_true rfl) dX12_row_66 ⟨by rw [hR]; decide, by rw [hR]; decide⟩) (fun r_37 s_36 h => ?_)
            refine k_if_ne hC (pc := 69) 85 dX12_row_69 (by decide) (fun c_38 => ?_) (fun c_38 => ?_)
            · have h := h.1 c_38
              refine k_sub [(0, .ref (adr X.G a 6 0)), (1, .int x1), (2, .int x2), (4, .int x4), (5, .int x5)] [1, 2, 3, 5, 6] rfl ?_
              exact b_X12_row_85 hC hR hQ hr _ _ _ _ _ h
            · have h := h.2 c_38
              refine k_goto hC (pc := 72) 82 dX12_row_72 (by decide) ?_
              refine k_bipush hC (pc := 82) (v := (-2)) dX12_row_82 bp_m2 ?_
              exact k_iret hC (pc := 84) hQ hr dX12_row_84 h
        · have h := h.2 c_13
          refine k_aload_n hC (pc := 50) dX12_row_50 1 rfl ?_
          refine k_iload hC (pc := 51) dX12_row_51 0 rfl ?_
          refine k_ci (rn_V hC (pc := 53) (As := [.int r_12]) (rest := []) ca_X12_fails ml_RX12_249 im_X12_fails se_X12_fails (fx_in f6_0) (ob6_0 _ _ _ _ _) rfl rfl (ct_X12_fails r_12 h) (by rw [hR]; exact ⟨rfl, rfl, by decide, by decide⟩) rfl (Nat.le_of_ble_eq_true rfl) dX12_row_53 ⟨by rw [hR]; decide, by rw [hR]; decide⟩) (fun r_40 s_39 h => ?_)
          exact k_iret hC (pc := 56) hQ hr dX12_row_56 h
      · have h := h.2 c_10
        refine k_bipush hC (pc := 30) (v := (-2)) dX12_row_30 bp_m2 ?_
        exact k_iret hC (pc := 32) hQ hr dX12_row_32 h
  · have h := h.2 c_4
    refine k_iconst hC (pc := 12) (v := (-1)) dX12_row_12 ic_m1 ?_
    exact k_iret hC (pc := 13) hQ hr dX12_row_13 h
theorem ct_X12_row {l : Launch} {G : Gx} {a : Ax} {s : Sx} {N : Nat} {post : Int32 → Sx → Prop} (x1 : Int32) (x2 : Int32) (x3 : Int32) (x4 : Int32) (x5 : Int32) (h : w_X12_row N x1 x2 x3 x4 x5 s post) : Met l yX12_row (Cond.code yX12_row cX12_row 9 (some .int) :: gw) { frames := 2, cells := 0, slots := 0, locals := 42 } (va_Pc [.ref (adr G a 6 0), .int x1, .int x2, .int x3, .int x4, .int x5] (fun U => FU G a s U)) (Qi G a post) 0 0 (bs_ G) := met_of (plainFor_of_name (by decide)) (Nat.le_of_ble_eq_true rfl) rfl (fun X hC hl hR hQ hr hG hn => by subst hG; exact b_X12_row hC hR hQ hr hn s x1 x2 x3 x4 x5 h)
theorem ca_X12_row : Ca yX12_row cX12_row 9 (some .int) 5 := ⟨cd_X12_row, ii_RX12, by decide, by decide, by decide +kernel⟩
def w_X12_week_172 (N : Nat) (post : Int32 → Sx → Prop) (K19 : Sx → Int32 → Int32 → Int32 → Prop) (s : Sx) (x1 : Int32) (x2 : Int32) (x3 : Int32) (z0 : Int32) : Prop := vp_in x3 8 ∧ vp_in x3 8 ∧ ∀ s_30, s_30 = setI s 5 38 x3.toNatClampNeg ((s.1 5 38 x3.toNatClampNeg) + z0) → vp_in x3 8 ∧ vp_in x3 8 ∧ ∀ s_33, s_33 = setI s_30 5 43 x3.toNatClampNeg ((s_30.1 5 43 x3.toNatClampNeg) + (((z0 + 9) / 10) * 10)) → ∀ x_34 : Int32, x_34 = x2 + z0 → ∀ x_35 : Int32, x_35 = x3 + 1 → K19 s_33 x1 x_34 x_35
def w_X12_week_97 (N : Nat) (post : Int32 → Sx → Prop) (K19 : Sx → Int32 → Int32 → Int32 → Prop) (s : Sx) (x1 : Int32) (x2 : Int32) (x3 : Int32) (x4 : Int32) (z0 : Int32) (z1 : Int32) : Prop := ∀ x_15 : Int32, x_15 = z0 * z1 → vp_in x3 8 ∧ vp_in x3 8 ∧ vp_in x3 8 ∧ ∀ s_19, s_19 = setI s 5 41 x3.toNatClampNeg ((s.1 5 41 x3.toNatClampNeg) + (4 * ((s.1 5 40 x3.toNatClampNeg) - x4))) → vp_in x3 8 ∧ vp_in x3 8 ∧ ∀ s_22, s_22 = setI s_19 5 42 x3.toNatClampNeg ((s_19.1 5 42 x3.toNatClampNeg) + ((4 * x4) - x_15)) → vp_in x3 8 ∧ vp_in x3 8 ∧ (((s_22.1 5 37 x3.toNatClampNeg) - (s_22.1 5 38 x3.toNatClampNeg)) ≤ x_15 → vp_in x3 8 ∧ vp_in x3 8 ∧ w_X12_week_172 N post K19 s_22 x1 x2 x3 ((s_22.1 5 37 x3.toNatClampNeg) - (s_22.1 5 38 x3.toNatClampNeg))) ∧ (¬ (((s_22.1 5 37 x3.toNatClampNeg) - (s_22.1 5 38 x3.toNatClampNeg)) ≤ x_15) → w_X12_week_172 N post K19 s_22 x1 x2 x3 x_15)
def w_X12_week_75 (N : Nat) (post : Int32 → Sx → Prop) (K19 : Sx → Int32 → Int32 → Int32 → Prop) (s : Sx) (x1 : Int32) (x2 : Int32) (x3 : Int32) (z0 : Int32) : Prop := (¬ x1 = 0 → (¬ x1 = 1 → w_X12_week_97 N post K19 s x1 x2 x3 z0 z0 0) ∧ (¬ (¬ x1 = 1) → w_X12_week_97 N post K19 s x1 x2 x3 z0 z0 2)) ∧ (¬ (¬ x1 = 0) → w_X12_week_97 N post K19 s x1 x2 x3 z0 z0 4)
def w_X12_week_19 (N : Nat) (post : Int32 → Sx → Prop) : Nat → Sx → Int32 → Int32 → Int32 → Prop
  | 0, _, _, _, _ => False
  | n + 1, s, x1, x2, x3 => ((s.1 6 0 35) ≤ x3 → ∀ s_5, s_5 = setI s 6 0 46 ((s.1 6 0 46) + 1) → post x2 s_5) ∧ (¬ ((s.1 6 0 35) ≤ x3) → vp_in x3 8 ∧ vp_in x3 8 ∧ ((s.1 5 38 x3.toNatClampNeg) < (s.1 5 37 x3.toNatClampNeg) → vp_in x3 8 ∧ vp_in x3 8 ∧ ((s.1 5 39 x3.toNatClampNeg) ≤ (s.1 5 40 x3.toNatClampNeg) → vp_in x3 8 ∧ w_X12_week_75 N post (w_X12_week_19 N post n) s x1 x2 x3 (s.1 5 39 x3.toNatClampNeg)) ∧ (¬ ((s.1 5 39 x3.toNatClampNeg) ≤ (s.1 5 40 x3.toNatClampNeg)) → vp_in x3 8 ∧ w_X12_week_75 N post (w_X12_week_19 N post n) s x1 x2 x3 (s.1 5 40 x3.toNatClampNeg))) ∧ (¬ ((s.1 5 38 x3.toNatClampNeg) < (s.1 5 37 x3.toNatClampNeg)) → ∀ x_37 : Int32, x_37 = x3 + 1 → w_X12_week_19 N post n s x1 x2 x_37))
def w_X12_week (N : Nat) (s : Sx) (post : Int32 → Sx → Prop) : Prop := ¬ (s.1 6 0 45) = 0 ∧ vp_in ((s.1 6 0 46) - (s.1 6 0 46) / (s.1 6 0 45) * (s.1 6 0 45)) 8 ∧ ∀ x_3 : Int32, x_3 = s.1 5 44 ((s.1 6 0 46) - (s.1 6 0 46) / (s.1 6 0 45) * (s.1 6 0 45)).toNatClampNeg → w_X12_week_19 N post N s x_3 0 0
set_option maxHeartbeats 4000000 in
theorem b_X12_week_172 {X : Kx} {a : Ax} {N : Nat} {post : Int32 → Sx → Prop} {K19 : Sx → Int32 → Int32 → Int32 → Prop}  (hC : Cx X cX12_week 6 RX12) (hR : X.R = { frames := 0, cells := 0, slots := 0, locals := 0 }) (hQ : X.Q = MQ X.below (Qi X.G a post) X.av X.s 0 0 (bs_ X.G)) (hr : X.meth.sig.returnType = (some .int))  (hK19 : ∀ (s : Sx) (x1 : Int32) (x2 : Int32) (x3 : Int32), K19 s x1 x2 x3 → wk X a s 6 19 [(0, .ref (adr X.G a 6 0)), (1, .int x1), (2, .int x2), (3, .int x3)] [] 0 0) (s : Sx) (x1 : Int32) (x2 : Int32) (x3 : Int32) (z0 : Int32) (h : w_X12_week_172 N post K19 s x1 x2 x3 z0) : wk X a s 6 172 [(0, .ref (adr X.G a 6 0)), (1, .int x1), (2, .int x2), (3, .int x3)] [.int z0] 0 0 := by
  unfold w_X12_week_172 at h
  refine k_istore hC (pc := 172) dX12_week_172 [(5, .int z0), (0, .ref (adr X.G a 6 0)), (1, .int x1), (2, .int x2), (3, .int x3)] (by decide) rfl ?_
  refine k_aload_n hC (pc := 174) dX12_week_174 1 rfl ?_
  refine gf_X12_38 hC (pc := 175)  fl_RX12_92 dX12_week_175 ?_
  refine k_iload_n hC (pc := 178) dX12_week_178 4 rfl ?_
  refine k_dup2 hC (pc := 179) dX12_week_179 rfl rfl ?_
  obtain ⟨c_28, h⟩ := h
  refine r_iald hC (pc := 180) ra5_38 c_28 dX12_week_180 ?_
  refine k_iload hC (pc := 181) dX12_week_181 0 rfl ?_
  refine k_iadd hC (pc := 183) dX12_week_183 ?_
  obtain ⟨c_29, h⟩ := h
  refine r_iast hC (pc := 184) ra5_38 c_29 dX12_week_184 (fun s_30 h_s_30 => ?_)
  have h := h s_30 h_s_30
  refine k_aload_n hC (pc := 185) dX12_week_185 1 rfl ?_
  refine gf_X12_43 hC (pc := 186)  fl_RX12_107 dX12_week_186 ?_
  refine k_iload_n hC (pc := 189) dX12_week_189 4 rfl ?_
  refine k_dup2 hC (pc := 190) dX12_week_190 rfl rfl ?_
  obtain ⟨c_31, h⟩ := h
  refine r_iald hC (pc := 191) ra5_43 c_31 dX12_week_191 ?_
  refine k_iload hC (pc := 192) dX12_week_192 0 rfl ?_
  refine k_bipush hC (pc := 194) (v := 9) dX12_week_194 bp_9 ?_
  refine k_iadd hC (pc := 196) dX12_week_196 ?_
  refine k_bipush hC (pc := 197) (v := 10) dX12_week_197 bp_10 ?_
  refine k_idiv hC (pc := 199) dX12_week_199 (by decide) ?_
  refine k_bipush hC (pc := 200) (v := 10) dX12_week_200 bp_10 ?_
  refine k_imul hC (pc := 202) dX12_week_202 ?_
  refine k_iadd hC (pc := 203) dX12_week_203 ?_
  obtain ⟨c_32, h⟩ := h
  refine r_iast hC (pc := 204) ra5_43 c_32 dX12_week_204 (fun s_33 h_s_33 => ?_)
  have h := h s_33 h_s_33
  refine k_iload_n hC (pc := 205) dX12_week_205 3 rfl ?_
  refine k_iload hC (pc := 206) dX12_week_206 0 rfl ?_
  refine k_iadd hC (pc := 208) dX12_week_208 ?_
  refine k_topi (fun x_34 h_x_34 => ?_)
  have h := h x_34 h_x_34
  refine k_istore_n hC (pc := 209) dX12_week_209 [(2, .int x_34), (5, .int z0), (0, .ref (adr X.G a 6 0)), (1, .int x1), (3, .int x3)] (by decide) rfl ?_
  obtain ⟨x_35, h_x_35⟩ : ∃ z : Int32, z = x3 + 1 := ⟨_, rfl⟩
  have h := h x_35 h_x_35
  refine k_iincw hC (pc := 210) dX12_week_210 4 rfl ic_1 h_x_35.symm [(3, .int x_35), (2, .int x_34), (5, .int z0), (0, .ref (adr X.G a 6 0)), (1, .int x1)] (by decide) rfl ?_
  refine k_goto hC (pc := 213) 19 dX12_week_213 (by decide) ?_
  refine k_sub [(0, .ref (adr X.G a 6 0)), (1, .int x1), (2, .int x_34), (3, .int x_35)] [3, 4, 1, 0] rfl ?_
  exact hK19 _ _ _ _ h
set_option maxHeartbeats 4000000 in
theorem b_X12_week_97 {X : Kx} {a : Ax} {N : Nat} {post : Int32 → Sx → Prop} {K19 : Sx → Int32 → Int32 → Int32 → Prop}  (hC : Cx X cX12_week 6 RX12) (hR : X.R = { frames := 0, cells := 0, slots := 0, locals := 0 }) (hQ : X.Q = MQ X.below (Qi X.G a post) X.av X.s 0 0 (bs_ X.G)) (hr : X.meth.sig.returnType = (some .int))  (hK19 : ∀ (s : Sx) (x1 : Int32) (x2 : Int32) (x3 : Int32), K19 s x1 x2 x3 → wk X a s 6 19 [(0, .ref (adr X.G a 6 0)), (1, .int x1), (2, .int x2), (3, .int x3)] [] 0 0) (s : Sx) (x1 : Int32) (x2 : Int32) (x3 : Int32) (x4 : Int32) (z0 : Int32) (z1 : Int32) (h : w_X12_week_97 N post K19 s x1 x2 x3 x4 z0 z1) : wk X a s 6 97 [(0, .ref (adr X.G a 6 0)), (1, .int x1), (2, .int x2), (3, .int x3), (4, .int x4)] [.int z1, .int z0] 0 0 := by
  unfold w_X12_week_97 at h
  refine k_imul hC (pc := 97) dX12_week_97 ?_
  refine k_topi (fun x_15 h_x_15 => ?_)
  have h := h x_15 h_x_15
  refine k_istore hC (pc := 98) dX12_week_98 [(5, .int x_15), (0, .ref (adr X.G a 6 0)), (1, .int x1), (2, .int x2), (3, .int x3), (4, .int x4)] (by decide) rfl ?_
  refine k_aload_n hC (pc := 100) dX12_week_100 1 rfl ?_
  refine gf_X12_41 hC (pc := 101)  fl_RX12_101 dX12_week_101 ?_
  refine k_iload_n hC (pc := 104) dX12_week_104 4 rfl ?_
  refine k_dup2 hC (pc := 105) dX12_week_105 rfl rfl ?_
  obtain ⟨c_16, h⟩ := h
  refine r_iald hC (pc := 106) ra5_41 c_16 dX12_week_106 ?_
  refine k_iconst hC (pc := 107) (v := 4) dX12_week_107 ic_4 ?_
  refine k_aload_n hC (pc := 108) dX12_week_108 1 rfl ?_
  refine gf_X12_40 hC (pc := 109)  fl_RX12_98 dX12_week_109 ?_
  refine k_iload_n hC (pc := 112) dX12_week_112 4 rfl ?_
  obtain ⟨c_17, h⟩ := h
  refine r_iald hC (pc := 113) ra5_40 c_17 dX12_week_113 ?_
  refine k_iload hC (pc := 114) dX12_week_114 5 rfl ?_
  refine k_isub hC (pc := 116) dX12_week_116 ?_
  refine k_imul hC (pc := 117) dX12_week_117 ?_
  refine k_iadd hC (pc := 118) dX12_week_118 ?_
  obtain ⟨c_18, h⟩ := h
  refine r_iast hC (pc := 119) ra5_41 c_18 dX12_week_119 (fun s_19 h_s_19 => ?_)
  have h := h s_19 h_s_19
  refine k_aload_n hC (pc := 120) dX12_week_120 1 rfl ?_
  refine gf_X12_42 hC (pc := 121)  fl_RX12_104 dX12_week_121 ?_
  refine k_iload_n hC (pc := 124) dX12_week_124 4 rfl ?_
  refine k_dup2 hC (pc := 125) dX12_week_125 rfl rfl ?_
  obtain ⟨c_20, h⟩ := h
  refine r_iald hC (pc := 126) ra5_42 c_20 dX12_week_126 ?_
  refine k_iconst hC (pc := 127) (v := 4) dX12_week_127 ic_4 ?_
  refine k_iload hC (pc := 128) dX12_week_128 5 rfl ?_
  refine k_imul hC (pc := 130) dX12_week_130 ?_
  refine k_iload hC (pc := 131) dX12_week_131 0 rfl ?_
  refine k_isub hC (pc := 133) dX12_week_133 ?_
  refine k_iadd hC (pc := 134) dX12_week_134 ?_
  obtain ⟨c_21, h⟩ := h
  refine r_iast hC (pc := 135) ra5_42 c_21 dX12_week_135 (fun s_22 h_s_22 => ?_)
  have h := h s_22 h_s_22
  refine k_iload hC (pc := 136) dX12_week_136 0 rfl ?_
  refine k_aload_n hC (pc := 138) dX12_week_138 1 rfl ?_
  refine gf_X12_37 hC (pc := 139)  fl_RX12_89 dX12_week_139 ?_
  refine k_iload_n hC (pc := 142) dX12_week_142 4 rfl ?_
  obtain ⟨c_23, h⟩ := h
  refine r_iald hC (pc := 143) ra5_37 c_23 dX12_week_143 ?_
  refine k_aload_n hC (pc := 144) dX12_week_144 1 rfl ?_
  refine gf_X12_38 hC (pc := 145)  fl_RX12_92 dX12_week_145 ?_
  refine k_iload_n hC (pc := 148) dX12_week_148 4 rfl ?_
  obtain ⟨c_24, h⟩ := h
  refine r_iald hC (pc := 149) ra5_38 c_24 dX12_week_149 ?_
  refine k_isub hC (pc := 150) dX12_week_150 ?_
  refine k_icmp_ge hC (pc := 151) 159 dX12_week_151 (by decide) (fun c_25 => ?_) (fun c_25 => ?_)
  · have h := h.1 c_25
    refine k_aload_n hC (pc := 159) dX12_week_159 1 rfl ?_
    refine gf_X12_37 hC (pc := 160)  fl_RX12_89 dX12_week_160 ?_
    refine k_iload_n hC (pc := 163) dX12_week_163 4 rfl ?_
    obtain ⟨c_26, h⟩ := h
    refine r_iald hC (pc := 164) ra5_37 c_26 dX12_week_164 ?_
    refine k_aload_n hC (pc := 165) dX12_week_165 1 rfl ?_
    refine gf_X12_38 hC (pc := 166)  fl_RX12_92 dX12_week_166 ?_
    refine k_iload_n hC (pc := 169) dX12_week_169 4 rfl ?_
    obtain ⟨c_27, h⟩ := h
    refine r_iald hC (pc := 170) ra5_38 c_27 dX12_week_170 ?_
    refine k_isub hC (pc := 171) dX12_week_171 ?_
    refine k_sub [(0, .ref (adr X.G a 6 0)), (1, .int x1), (2, .int x2), (3, .int x3)] [1, 2, 3, 4] rfl ?_
    exact b_X12_week_172 hC hR hQ hr hK19 _ _ _ _ _ h
  · have h := h.2 c_25
    refine k_iload hC (pc := 154) dX12_week_154 0 rfl ?_
    refine k_goto hC (pc := 156) 172 dX12_week_156 (by decide) ?_
    refine k_sub [(0, .ref (adr X.G a 6 0)), (1, .int x1), (2, .int x2), (3, .int x3)] [1, 2, 3, 4] rfl ?_
    exact b_X12_week_172 hC hR hQ hr hK19 _ _ _ _ _ h
set_option maxHeartbeats 4000000 in
theorem b_X12_week_75 {X : Kx} {a : Ax} {N : Nat} {post : Int32 → Sx → Prop} {K19 : Sx → Int32 → Int32 → Int32 → Prop}  (hC : Cx X cX12_week 6 RX12) (hR : X.R = { frames := 0, cells := 0, slots := 0, locals := 0 }) (hQ : X.Q = MQ X.below (Qi X.G a post) X.av X.s 0 0 (bs_ X.G)) (hr : X.meth.sig.returnType = (some .int))  (hK19 : ∀ (s : Sx) (x1 : Int32) (x2 : Int32) (x3 : Int32), K19 s x1 x2 x3 → wk X a s 6 19 [(0, .ref (adr X.G a 6 0)), (1, .int x1), (2, .int x2), (3, .int x3)] [] 0 0) (s : Sx) (x1 : Int32) (x2 : Int32) (x3 : Int32) (z0 : Int32) (h : w_X12_week_75 N post K19 s x1 x2 x3 z0) : wk X a s 6 75 [(0, .ref (adr X.G a 6 0)), (1, .int x1), (2, .int x2), (3, .int x3)] [.int z0] 0 0 := by
  unfold w_X12_week_75 at h
  refine k_istore hC (pc := 75) dX12_week_75 [(4, .int z0), (0, .ref (adr X.G a 6 0)), (1, .int x1), (2, .int x2), (3, .int x3)] (by decide) rfl ?_
  refine k_iload hC (pc := 77) dX12_week_77 0 rfl ?_
  refine k_iload_n hC (pc := 79) dX12_week_79 2 rfl ?_
  refine k_if_ne hC (pc := 80) 87 dX12_week_80 (by decide) (fun c_13 => ?_) (fun c_13 => ?_)
  · have h := h.1 c_13
    refine k_iload_n hC (pc := 87) dX12_week_87 2 rfl ?_
    refine k_iconst hC (pc := 88) (v := 1) dX12_week_88 ic_1 ?_
    refine k_icmp_ne hC (pc := 89) 96 dX12_week_89 (by decide) (fun c_14 => ?_) (fun c_14 => ?_)
    · have h := h.1 c_14
      refine k_iconst hC (pc := 96) (v := 0) dX12_week_96 ic_0 ?_
      refine k_sub [(0, .ref (adr X.G a 6 0)), (1, .int x1), (2, .int x2), (3, .int x3), (4, .int z0)] [1, 2, 3, 4, 0] rfl ?_
      exact b_X12_week_97 hC hR hQ hr hK19 _ _ _ _ _ _ _ h
    · have h := h.2 c_14
      refine k_iconst hC (pc := 92) (v := 2) dX12_week_92 ic_2 ?_
      refine k_goto hC (pc := 93) 97 dX12_week_93 (by decide) ?_
      refine k_sub [(0, .ref (adr X.G a 6 0)), (1, .int x1), (2, .int x2), (3, .int x3), (4, .int z0)] [1, 2, 3, 4, 0] rfl ?_
      exact b_X12_week_97 hC hR hQ hr hK19 _ _ _ _ _ _ _ h
  · have h := h.2 c_13
    refine k_iconst hC (pc := 83) (v := 4) dX12_week_83 ic_4 ?_
    refine k_goto hC (pc := 84) 97 dX12_week_84 (by decide) ?_
    refine k_sub [(0, .ref (adr X.G a 6 0)), (1, .int x1), (2, .int x2), (3, .int x3), (4, .int z0)] [1, 2, 3, 4, 0] rfl ?_
    exact b_X12_week_97 hC hR hQ hr hK19 _ _ _ _ _ _ _ h
set_option maxHeartbeats 4000000 in
theorem b_X12_week_19 {X : Kx} {a : Ax} {N : Nat} {post : Int32 → Sx → Prop}  (hC : Cx X cX12_week 6 RX12) (hR : X.R = { frames := 0, cells := 0, slots := 0, locals := 0 }) (hQ : X.Q = MQ X.below (Qi X.G a post) X.av X.s 0 0 (bs_ X.G)) (hr : X.meth.sig.returnType = (some .int))   : ∀ (n : Nat) (s : Sx) (x1 : Int32) (x2 : Int32) (x3 : Int32), w_X12_week_19 N post  n s x1 x2 x3 → wk X a s 6 19 [(0, .ref (adr X.G a 6 0)), (1, .int x1), (2, .int x2), (3, .int x3)] [] 0 0 := by
  intro n
  induction n with
  | zero => intro s x1 x2 x3 h; exact h.elim
  | succ n ih =>
    intro s x1 x2 x3 h
    unfold w_X12_week_19 at h
    refine k_iload_n hC (pc := 19) dX12_week_19 3 rfl ?_
    refine k_aload_n hC (pc := 20) dX12_week_20 0 rfl ?_
    refine gf_X12_35 hC (pc := 21)  fl_RX12_271 dX12_week_21 ?_
    refine k_icmp_ge hC (pc := 24) 216 dX12_week_24 (by decide) (fun c_4 => ?_) (fun c_4 => ?_)
    · have h := h.1 c_4
      refine k_aload_n hC (pc := 216) dX12_week_216 0 rfl ?_
      refine k_dup hC (pc := 217) dX12_week_217 rfl ?_
      refine gf_X12_46 hC (pc := 218)  fl_RX12_277 dX12_week_218 ?_
      refine k_iconst hC (pc := 221) (v := 1) dX12_week_221 ic_1 ?_
      refine k_iadd hC (pc := 222) dX12_week_222 ?_
      refine pf_X12_46 hC (pc := 223)  fl_RX12_277 dX12_week_223 (fun s_5 h_s_5 => ?_)
      have h := h s_5 h_s_5
      refine k_iload_n hC (pc := 226) dX12_week_226 2 rfl ?_
      exact k_iret hC (pc := 227) hQ hr dX12_week_227 h
    · have h := h.2 c_4
      refine k_aload_n hC (pc := 27) dX12_week_27 0 rfl ?_
      refine gf_X12_38 hC (pc := 28)  fl_RX12_92 dX12_week_28 ?_
      refine k_iload_n hC (pc := 31) dX12_week_31 3 rfl ?_
      obtain ⟨c_6, h⟩ := h
      refine r_iald hC (pc := 32) ra5_38 c_6 dX12_week_32 ?_
      refine k_aload_n hC (pc := 33) dX12_week_33 0 rfl ?_
      refine gf_X12_37 hC (pc := 34)  fl_RX12_89 dX12_week_34 ?_
      refine k_iload_n hC (pc := 37) dX12_week_37 3 rfl ?_
      obtain ⟨c_7, h⟩ := h
      refine r_iald hC (pc := 38) ra5_37 c_7 dX12_week_38 ?_
      refine k_icmp_lt hC (pc := 39) 45 dX12_week_39 (by decide) (fun c_8 => ?_) (fun c_8 => ?_)
      · have h := h.1 c_8
        refine k_aload_n hC (pc := 45) dX12_week_45 0 rfl ?_
        refine gf_X12_40 hC (pc := 46)  fl_RX12_98 dX12_week_46 ?_
        refine k_iload_n hC (pc := 49) dX12_week_49 3 rfl ?_
        obtain ⟨c_9, h⟩ := h
        refine r_iald hC (pc := 50) ra5_40 c_9 dX12_week_50 ?_
        refine k_aload_n hC (pc := 51) dX12_week_51 0 rfl ?_
        refine gf_X12_39 hC (pc := 52)  fl_RX12_95 dX12_week_52 ?_
        refine k_iload_n hC (pc := 55) dX12_week_55 3 rfl ?_
        obtain ⟨c_10, h⟩ := h
        refine r_iald hC (pc := 56) ra5_39 c_10 dX12_week_56 ?_
        refine k_icmp_ge hC (pc := 57) 69 dX12_week_57 (by decide) (fun c_11 => ?_) (fun c_11 => ?_)
        · have h := h.1 c_11
          refine k_aload_n hC (pc := 69) dX12_week_69 0 rfl ?_
          refine gf_X12_39 hC (pc := 70)  fl_RX12_95 dX12_week_70 ?_
          refine k_iload_n hC (pc := 73) dX12_week_73 3 rfl ?_
          obtain ⟨c_12, h⟩ := h
          refine r_iald hC (pc := 74) ra5_39 c_12 dX12_week_74 ?_
          exact b_X12_week_75 hC hR hQ hr ih _ _ _ _ _ h
        · have h := h.2 c_11
          refine k_aload_n hC (pc := 60) dX12_week_60 0 rfl ?_
          refine gf_X12_40 hC (pc := 61)  fl_RX12_98 dX12_week_61 ?_
          refine k_iload_n hC (pc := 64) dX12_week_64 3 rfl ?_
          obtain ⟨c_36, h⟩ := h
          refine r_iald hC (pc := 65) ra5_40 c_36 dX12_week_65 ?_
          refine k_goto hC (pc := 66) 75 dX12_week_66 (by decide) ?_
          exact b_X12_week_75 hC hR hQ hr ih _ _ _ _ _ h
      · have h := h.2 c_8
        refine k_goto hC (pc := 42) 210 dX12_week_42 (by decide) ?_
        obtain ⟨x_37, h_x_37⟩ : ∃ z : Int32, z = x3 + 1 := ⟨_, rfl⟩
        have h := h x_37 h_x_37
        refine k_iincw hC (pc := 210) dX12_week_210 3 rfl ic_1 h_x_37.symm [(3, .int x_37), (0, .ref (adr X.G a 6 0)), (1, .int x1), (2, .int x2)] (by decide) rfl ?_
        refine k_goto hC (pc := 213) 19 dX12_week_213 (by decide) ?_
        refine k_sub [(0, .ref (adr X.G a 6 0)), (1, .int x1), (2, .int x2), (3, .int x_37)] [1, 2, 3, 0] rfl ?_
        exact ih _ _ _ _ h
set_option maxHeartbeats 4000000 in
theorem b_X12_week {X : Kx} {a : Ax} {N : Nat} {post : Int32 → Sx → Prop} (hC : Cx X cX12_week 6 RX12) (hR : X.R = { frames := 0, cells := 0, slots := 0, locals := 0 }) (hQ : X.Q = MQ X.below (Qi X.G a post) X.av X.s 0 0 (bs_ X.G)) (hr : X.meth.sig.returnType = (some .int)) (hn : X.meth.name = "week") (s : Sx) (h : w_X12_week N s post) : wk X a s 6 0 [(0, .ref (adr X.G a 6 0))] [] 0 0 := by
  unfold w_X12_week at h
  refine k_aload_n hC (pc := 0) dX12_week_0 0 rfl ?_
  refine gf_X12_44 hC (pc := 1)  fl_RX12_110 dX12_week_1 ?_
  refine k_aload_n hC (pc := 4) dX12_week_4 0 rfl ?_
  refine gf_X12_46 hC (pc := 5)  fl_RX12_277 dX12_week_5 ?_
  refine k_aload_n hC (pc := 8) dX12_week_8 0 rfl ?_
  refine gf_X12_45 hC (pc := 9)  fl_RX12_113 dX12_week_9 ?_
  obtain ⟨c_1, h⟩ := h
  refine k_irem hC (pc := 12) dX12_week_12 c_1 ?_
  obtain ⟨c_2, h⟩ := h
  refine r_iald hC (pc := 13) ra5_44 c_2 dX12_week_13 ?_
  refine k_topi (fun x_3 h_x_3 => ?_)
  have h := h x_3 h_x_3
  refine k_istore_n hC (pc := 14) dX12_week_14 [(1, .int x_3), (0, .ref (adr X.G a 6 0))] (by decide) rfl ?_
  refine k_iconst hC (pc := 15) (v := 0) dX12_week_15 ic_0 ?_
  refine k_istore_n hC (pc := 16) dX12_week_16 [(2, .int 0), (1, .int x_3), (0, .ref (adr X.G a 6 0))] (by decide) rfl ?_
  refine k_iconst hC (pc := 17) (v := 0) dX12_week_17 ic_0 ?_
  refine k_istore_n hC (pc := 18) dX12_week_18 [(3, .int 0), (2, .int 0), (1, .int x_3), (0, .ref (adr X.G a 6 0))] (by decide) rfl ?_
  refine k_sub [(0, .ref (adr X.G a 6 0)), (1, .int x_3), (2, .int 0), (3, .int 0)] [3, 2, 1, 0] rfl ?_
  exact b_X12_week_19 hC hR hQ hr N _ _ _ _ h
theorem ct_X12_week {l : Launch} {G : Gx} {a : Ax} {s : Sx} {N : Nat} {post : Int32 → Sx → Prop} (h : w_X12_week N s post) : Met l yX12_week (Cond.code yX12_week cX12_week 6 (some .int) :: gw) { frames := 0, cells := 0, slots := 0, locals := 0 } (va_Pc [.ref (adr G a 6 0)] (fun U => FU G a s U)) (Qi G a post) 0 0 (bs_ G) := met_of (plainFor_of_name (by decide)) (Nat.le_of_ble_eq_true rfl) rfl (fun X hC hl hR hQ hr hG hn => by subst hG; exact b_X12_week hC hR hQ hr hn s h)
theorem ca_X12_week : Ca yX12_week cX12_week 6 (some .int) 0 := ⟨cd_X12_week, ii_RX12, by decide, by decide, by decide +kernel⟩
def w_X12_ofWork (N : Nat) (x1 : Int32) (x2 : Int32) (s : Sx) (post : Int32 → Sx → Prop) : Prop := w_X12_isWork N x1 s (fun r_2 s_1 => (¬ r_2 = 0 → (x2 = 0 → vp_in x1 8 ∧ post (s_1.1 5 36 x1.toNatClampNeg) s_1) ∧ (¬ (x2 = 0) → (x2 = 1 → vp_in x1 8 ∧ post (s_1.1 5 37 x1.toNatClampNeg) s_1) ∧ (¬ (x2 = 1) → (x2 = 2 → vp_in x1 8 ∧ post (s_1.1 5 38 x1.toNatClampNeg) s_1) ∧ (¬ (x2 = 2) → (x2 = 3 → vp_in x1 8 ∧ post (s_1.1 5 41 x1.toNatClampNeg) s_1) ∧ (¬ (x2 = 3) → (x2 = 4 → vp_in x1 8 ∧ post (s_1.1 5 42 x1.toNatClampNeg) s_1) ∧ (¬ (x2 = 4) → (x2 = 5 → vp_in x1 8 ∧ post (s_1.1 5 43 x1.toNatClampNeg) s_1) ∧ (¬ (x2 = 5) → post ((-2)) s_1))))))) ∧ (¬ (¬ r_2 = 0) → post ((-1)) s_1))
set_option maxHeartbeats 4000000 in
theorem b_X12_ofWork {X : Kx} {a : Ax} {N : Nat} {post : Int32 → Sx → Prop} (hC : Cx X cX12_ofWork 3 RX12) (hR : X.R = { frames := 1, cells := 0, slots := 0, locals := 21 }) (hQ : X.Q = MQ X.below (Qi X.G a post) X.av X.s 0 0 (bs_ X.G)) (hr : X.meth.sig.returnType = (some .int)) (hn : X.meth.name = "ofWork") (s : Sx) (x1 : Int32) (x2 : Int32) (h : w_X12_ofWork N x1 x2 s post) : wk X a s 3 0 [(0, .ref (adr X.G a 6 0)), (1, .int x1), (2, .int x2)] [] 0 0 := by
  unfold w_X12_ofWork at h
  refine k_aload_n hC (pc := 0) dX12_ofWork_0 0 rfl ?_
  refine k_iload_n hC (pc := 1) dX12_ofWork_1 1 rfl ?_
  refine k_ci (rn_V hC (pc := 2) (As := [.int x1]) (rest := []) ca_X12_isWork ml_RX12_274 im_X12_isWork se_X12_isWork (fx_in f6_0) (ob6_0 _ _ _ _ _) rfl rfl (ct_X12_isWork x1 h) (by rw [hR]; exact ⟨rfl, rfl, by decide, by decide⟩) rfl (Nat.le_of_ble_eq_true rfl) dX12_ofWork_2 ⟨by rw [hR]; decide, by rw [hR]; decide⟩) (fun r_2 s_1 h => ?_)
  refine k_if_ne hC (pc := 5) 10 dX12_ofWork_5 (by decide) (fun c_3 => ?_) (fun c_3 => ?_)
  · have h := h.1 c_3
    refine k_iload_n hC (pc := 10) dX12_ofWork_10 2 rfl ?_
    by_cases c_5 : x2 = 0
    · have h := h.1 c_5
      refine k_tsIn hC (pc := 11) (x := x2) 48 dX12_ofWork_11 (by rw [c_5]; decide) (by rw [c_5]; decide) (by rw [c_5]; rfl) (by decide) ?_
      refine k_aload_n hC (pc := 48) dX12_ofWork_48 0 rfl ?_
      refine gf_X12_36 hC (pc := 49)  fl_RX12_86 dX12_ofWork_49 ?_
      refine k_iload_n hC (pc := 52) dX12_ofWork_52 1 rfl ?_
      obtain ⟨c_4, h⟩ := h
      refine r_iald hC (pc := 53) ra5_36 c_4 dX12_ofWork_53 ?_
      exact k_iret hC (pc := 54) hQ hr dX12_ofWork_54 h
    · have h := h.2 c_5
      by_cases c_7 : x2 = 1
      · have h := h.1 c_7
        refine k_tsIn hC (pc := 11) (x := x2) 55 dX12_ofWork_11 (by rw [c_7]; decide) (by rw [c_7]; decide) (by rw [c_7]; rfl) (by decide) ?_
        refine k_aload_n hC (pc := 55) dX12_ofWork_55 0 rfl ?_
        refine gf_X12_37 hC (pc := 56)  fl_RX12_89 dX12_ofWork_56 ?_
        refine k_iload_n hC (pc := 59) dX12_ofWork_59 1 rfl ?_
        obtain ⟨c_6, h⟩ := h
        refine r_iald hC (pc := 60) ra5_37 c_6 dX12_ofWork_60 ?_
        exact k_iret hC (pc := 61) hQ hr dX12_ofWork_61 h
      · have h := h.2 c_7
        by_cases c_9 : x2 = 2
        · have h := h.1 c_9
          refine k_tsIn hC (pc := 11) (x := x2) 62 dX12_ofWork_11 (by rw [c_9]; decide) (by rw [c_9]; decide) (by rw [c_9]; rfl) (by decide) ?_
          refine k_aload_n hC (pc := 62) dX12_ofWork_62 0 rfl ?_
          refine gf_X12_38 hC (pc := 63)  fl_RX12_92 dX12_ofWork_63 ?_
          refine k_iload_n hC (pc := 66) dX12_ofWork_66 1 rfl ?_
          obtain ⟨c_8, h⟩ := h
          refine r_iald hC (pc := 67) ra5_38 c_8 dX12_ofWork_67 ?_
          exact k_iret hC (pc := 68) hQ hr dX12_ofWork_68 h
        · have h := h.2 c_9
          by_cases c_11 : x2 = 3
          · have h := h.1 c_11
            refine k_tsIn hC (pc := 11) (x := x2) 69 dX12_ofWork_11 (by rw [c_11]; decide) (by rw [c_11]; decide) (by rw [c_11]; rfl) (by decide) ?_
            refine k_aload_n hC (pc := 69) dX12_ofWork_69 0 rfl ?_
            refine gf_X12_41 hC (pc := 70)  fl_RX12_101 dX12_ofWork_70 ?_
            refine k_iload_n hC (pc := 73) dX12_ofWork_73 1 rfl ?_
            obtain ⟨c_10, h⟩ := h
            refine r_iald hC (pc := 74) ra5_41 c_10 dX12_ofWork_74 ?_
            exact k_iret hC (pc := 75) hQ hr dX12_ofWork_75 h
          · have h := h.2 c_11
            by_cases c_13 : x2 = 4
            · have h := h.1 c_13
              refine k_tsIn hC (pc := 11) (x := x2) 76 dX12_ofWork_11 (by rw [c_13]; decide) (by rw [c_13]; decide) (by rw [c_13]; rfl) (by decide) ?_
              refine k_aload_n hC (pc := 76) dX12_ofWork_76 0 rfl ?_
              refine gf_X12_42 hC (pc := 77)  fl_RX12_104 dX12_ofWork_77 ?_
              refine k_iload_n hC (pc := 80) dX12_ofWork_80 1 rfl ?_
              obtain ⟨c_12, h⟩ := h
              refine r_iald hC (pc := 81) ra5_42 c_12 dX12_ofWork_81 ?_
              exact k_iret hC (pc := 82) hQ hr dX12_ofWork_82 h
            · have h := h.2 c_13
              by_cases c_15 : x2 = 5
              · have h := h.1 c_15
                refine k_tsIn hC (pc := 11) (x := x2) 83 dX12_ofWork_11 (by rw [c_15]; decide) (by rw [c_15]; decide) (by rw [c_15]; rfl) (by decide) ?_
                refine k_aload_n hC (pc := 83) dX12_ofWork_83 0 rfl ?_
                refine gf_X12_43 hC (pc := 84)  fl_RX12_107 dX12_ofWork_84 ?_
                refine k_iload_n hC (pc := 87) dX12_ofWork_87 1 rfl ?_
                obtain ⟨c_14, h⟩ := h
                refine r_iald hC (pc := 88) ra5_43 c_14 dX12_ofWork_88 ?_
                exact k_iret hC (pc := 89) hQ hr dX12_ofWork_89 h
              · have h := h.2 c_15
                refine k_tsOut hC (pc := 11) (x := x2) 90 dX12_ofWork_11 (ts_out6 c_5 c_7 c_9 c_11 c_13 c_15) (by decide) ?_
                refine k_bipush hC (pc := 90) (v := (-2)) dX12_ofWork_90 bp_m2 ?_
                exact k_iret hC (pc := 92) hQ hr dX12_ofWork_92 h
  · have h := h.2 c_3
    refine k_iconst hC (pc := 8) (v := (-1)) dX12_ofWork_8 ic_m1 ?_
    exact k_iret hC (pc := 9) hQ hr dX12_ofWork_9 h
theorem ct_X12_ofWork {l : Launch} {G : Gx} {a : Ax} {s : Sx} {N : Nat} {post : Int32 → Sx → Prop} (x1 : Int32) (x2 : Int32) (h : w_X12_ofWork N x1 x2 s post) : Met l yX12_ofWork (Cond.code yX12_ofWork cX12_ofWork 3 (some .int) :: gw) { frames := 1, cells := 0, slots := 0, locals := 21 } (va_Pc [.ref (adr G a 6 0), .int x1, .int x2] (fun U => FU G a s U)) (Qi G a post) 0 0 (bs_ G) := met_of (plainFor_of_name (by decide)) (Nat.le_of_ble_eq_true rfl) rfl (fun X hC hl hR hQ hr hG hn => by subst hG; exact b_X12_ofWork hC hR hQ hr hn s x1 x2 h)
theorem ca_X12_ofWork : Ca yX12_ofWork cX12_ofWork 3 (some .int) 2 := ⟨cd_X12_ofWork, ii_RX12, by decide, by decide, by decide +kernel⟩
