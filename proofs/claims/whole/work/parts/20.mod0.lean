def w_J9_abs_0f7a4 (N : Nat) (x0 : Int32) (s : Sx) (post : Int32 → Sx → Prop) : Prop := (0 ≤ x0 → post x0 s) ∧ (¬ (0 ≤ x0) → post (-x0) s)
set_option maxHeartbeats 4000000 in
theorem b_J9_abs_0f7a4 {X : Kx} {a : Ax} {N : Nat} {post : Int32 → Sx → Prop} (hC : Cx X cJ9_abs_0f7a4 1 RJ9) (hR : X.R = { frames := 0, cells := 0, slots := 0, locals := 0 }) (hQ : X.Q = MQ X.below (Qi X.G a post) X.av X.s 0 0 (bs_ X.G)) (hr : X.meth.sig.returnType = (some .int)) (hn : X.meth.name = "abs") (s : Sx) (x0 : Int32) (h : w_J9_abs_0f7a4 N x0 s post) : wk X a s 1 0 [(0, .int x0)] [] 0 0 := by
  unfold w_J9_abs_0f7a4 at h
  refine k_iload_n hC (pc := 0) dJ9_abs_0f7a4_0 0 rfl ?_
  refine k_if_ge hC (pc := 1) 9 dJ9_abs_0f7a4_1 (by decide) (fun c_1 => ?_) (fun c_1 => ?_)
  · have h := h.1 c_1
    refine k_iload_n hC (pc := 9) dJ9_abs_0f7a4_9 0 rfl ?_
    exact k_iret hC (pc := 10) hQ hr dJ9_abs_0f7a4_10 h
  · have h := h.2 c_1
    refine k_iload_n hC (pc := 4) dJ9_abs_0f7a4_4 0 rfl ?_
    refine k_ineg hC (pc := 5) dJ9_abs_0f7a4_5 ?_
    refine k_goto hC (pc := 6) 10 dJ9_abs_0f7a4_6 (by decide) ?_
    exact k_iret hC (pc := 10) hQ hr dJ9_abs_0f7a4_10 h
theorem ct_J9_abs_0f7a4 {l : Launch} {G : Gx} {a : Ax} {s : Sx} {N : Nat} {post : Int32 → Sx → Prop} (x0 : Int32) (h : w_J9_abs_0f7a4 N x0 s post) : Met l yJ9_abs_0f7a4 (Cond.code yJ9_abs_0f7a4 cJ9_abs_0f7a4 1 (some .int) :: gw) { frames := 0, cells := 0, slots := 0, locals := 0 } (va_Pc [.int x0] (fun U => FU G a s U)) (Qi G a post) 0 0 (bs_ G) := met_of (by decide +kernel) (Nat.le_of_ble_eq_true rfl) rfl (fun X hC hl hR hQ hr hG hn => by subst hG; exact b_J9_abs_0f7a4 hC hR hQ hr hn s x0 h)
theorem ca_J9_abs_0f7a4 : Ca yJ9_abs_0f7a4 cJ9_abs_0f7a4 1 (some .int) 1 := ⟨cd_J9_abs_0f7a4, ii_RJ9, by decide, by decide, by decide +kernel⟩
def w_J9_floorMod_7cf53 (N : Nat) (x0 : Int32) (x1 : Int32) (s : Sx) (post : Int32 → Sx → Prop) : Prop := ¬ x1 = 0 ∧ ∀ x_2 : Int32, x_2 = x0 - x0 / x1 * x1 → (0 ≤ (x0 ^^^ x1) → post x_2 s) ∧ (¬ (0 ≤ (x0 ^^^ x1)) → (x_2 = 0 → post x_2 s) ∧ (¬ (x_2 = 0) → post (x_2 + x1) s))
set_option maxHeartbeats 4000000 in
theorem b_J9_floorMod_7cf53 {X : Kx} {a : Ax} {N : Nat} {post : Int32 → Sx → Prop} (hC : Cx X cJ9_floorMod_7cf53 3 RJ9) (hR : X.R = { frames := 0, cells := 0, slots := 0, locals := 0 }) (hQ : X.Q = MQ X.below (Qi X.G a post) X.av X.s 0 0 (bs_ X.G)) (hr : X.meth.sig.returnType = (some .int)) (hn : X.meth.name = "floorMod") (s : Sx) (x0 : Int32) (x1 : Int32) (h : w_J9_floorMod_7cf53 N x0 x1 s post) : wk X a s 3 0 [(0, .int x0), (1, .int x1)] [] 0 0 := by
  unfold w_J9_floorMod_7cf53 at h
  refine k_iload_n hC (pc := 0) dJ9_floorMod_7cf53_0 0 rfl ?_
  refine k_iload_n hC (pc := 1) dJ9_floorMod_7cf53_1 1 rfl ?_
  obtain ⟨c_1, h⟩ := h
  refine k_irem hC (pc := 2) dJ9_floorMod_7cf53_2 c_1 ?_
  refine k_topi (fun x_2 h_x_2 => ?_)
  have h := h x_2 h_x_2
  refine k_istore_n hC (pc := 3) dJ9_floorMod_7cf53_3 [(2, .int x_2), (0, .int x0), (1, .int x1)] (by decide) rfl ?_
  refine k_iload_n hC (pc := 4) dJ9_floorMod_7cf53_4 1 rfl ?_
  refine k_iload_n hC (pc := 5) dJ9_floorMod_7cf53_5 2 rfl ?_
  refine k_ixor hC (pc := 6) dJ9_floorMod_7cf53_6 ?_
  refine k_if_ge hC (pc := 7) 18 dJ9_floorMod_7cf53_7 (by decide) (fun c_3 => ?_) (fun c_3 => ?_)
  · have h := h.1 c_3
    refine k_iload_n hC (pc := 18) dJ9_floorMod_7cf53_18 0 rfl ?_
    exact k_iret hC (pc := 19) hQ hr dJ9_floorMod_7cf53_19 h
  · have h := h.2 c_3
    refine k_iload_n hC (pc := 10) dJ9_floorMod_7cf53_10 0 rfl ?_
    refine k_if_eq hC (pc := 11) 18 dJ9_floorMod_7cf53_11 (by decide) (fun c_4 => ?_) (fun c_4 => ?_)
    · have h := h.1 c_4
      refine k_iload_n hC (pc := 18) dJ9_floorMod_7cf53_18 0 rfl ?_
      exact k_iret hC (pc := 19) hQ hr dJ9_floorMod_7cf53_19 h
    · have h := h.2 c_4
      refine k_iload_n hC (pc := 14) dJ9_floorMod_7cf53_14 0 rfl ?_
      refine k_iload_n hC (pc := 15) dJ9_floorMod_7cf53_15 2 rfl ?_
      refine k_iadd hC (pc := 16) dJ9_floorMod_7cf53_16 ?_
      exact k_iret hC (pc := 17) hQ hr dJ9_floorMod_7cf53_17 h
theorem ct_J9_floorMod_7cf53 {l : Launch} {G : Gx} {a : Ax} {s : Sx} {N : Nat} {post : Int32 → Sx → Prop} (x0 : Int32) (x1 : Int32) (h : w_J9_floorMod_7cf53 N x0 x1 s post) : Met l yJ9_floorMod_7cf53 (Cond.code yJ9_floorMod_7cf53 cJ9_floorMod_7cf53 3 (some .int) :: gw) { frames := 0, cells := 0, slots := 0, locals := 0 } (va_Pc [.int x0, .int x1] (fun U => FU G a s U)) (Qi G a post) 0 0 (bs_ G) := met_of (by decide +kernel) (Nat.le_of_ble_eq_true rfl) rfl (fun X hC hl hR hQ hr hG hn => by subst hG; exact b_J9_floorMod_7cf53 hC hR hQ hr hn s x0 x1 h)
theorem ca_J9_floorMod_7cf53 : Ca yJ9_floorMod_7cf53 cJ9_floorMod_7cf53 3 (some .int) 2 := ⟨cd_J9_floorMod_7cf53, ii_RJ9, by decide, by decide, by decide +kernel⟩
def w_J9_min_7cf53 (N : Nat) (x0 : Int32) (x1 : Int32) (s : Sx) (post : Int32 → Sx → Prop) : Prop := (x1 < x0 → post x1 s) ∧ (¬ (x1 < x0) → post x0 s)
set_option maxHeartbeats 4000000 in
theorem b_J9_min_7cf53 {X : Kx} {a : Ax} {N : Nat} {post : Int32 → Sx → Prop} (hC : Cx X cJ9_min_7cf53 2 RJ9) (hR : X.R = { frames := 0, cells := 0, slots := 0, locals := 0 }) (hQ : X.Q = MQ X.below (Qi X.G a post) X.av X.s 0 0 (bs_ X.G)) (hr : X.meth.sig.returnType = (some .int)) (hn : X.meth.name = "min") (s : Sx) (x0 : Int32) (x1 : Int32) (h : w_J9_min_7cf53 N x0 x1 s post) : wk X a s 2 0 [(0, .int x0), (1, .int x1)] [] 0 0 := by
  unfold w_J9_min_7cf53 at h
  refine k_iload_n hC (pc := 0) dJ9_min_7cf53_0 0 rfl ?_
  refine k_iload_n hC (pc := 1) dJ9_min_7cf53_1 1 rfl ?_
  refine k_icmp_gt hC (pc := 2) 9 dJ9_min_7cf53_2 (by decide) (fun c_1 => ?_) (fun c_1 => ?_)
  · have h := h.1 c_1
    refine k_iload_n hC (pc := 9) dJ9_min_7cf53_9 1 rfl ?_
    exact k_iret hC (pc := 10) hQ hr dJ9_min_7cf53_10 h
  · have h := h.2 c_1
    refine k_iload_n hC (pc := 5) dJ9_min_7cf53_5 0 rfl ?_
    refine k_goto hC (pc := 6) 10 dJ9_min_7cf53_6 (by decide) ?_
    exact k_iret hC (pc := 10) hQ hr dJ9_min_7cf53_10 h
theorem ct_J9_min_7cf53 {l : Launch} {G : Gx} {a : Ax} {s : Sx} {N : Nat} {post : Int32 → Sx → Prop} (x0 : Int32) (x1 : Int32) (h : w_J9_min_7cf53 N x0 x1 s post) : Met l yJ9_min_7cf53 (Cond.code yJ9_min_7cf53 cJ9_min_7cf53 2 (some .int) :: gw) { frames := 0, cells := 0, slots := 0, locals := 0 } (va_Pc [.int x0, .int x1] (fun U => FU G a s U)) (Qi G a post) 0 0 (bs_ G) := met_of (by decide +kernel) (Nat.le_of_ble_eq_true rfl) rfl (fun X hC hl hR hQ hr hG hn => by subst hG; exact b_J9_min_7cf53 hC hR hQ hr hn s x0 x1 h)
theorem ca_J9_min_7cf53 : Ca yJ9_min_7cf53 cJ9_min_7cf53 2 (some .int) 2 := ⟨cd_J9_min_7cf53, ii_RJ9, by decide, by decide, by decide +kernel⟩
def w_J7_fill_d0a16_6 (N : Nat) (c0 : Nat) (n0 : Nat) (post : Sx → Prop) : Nat → Sx → Int64 → Int32 → Int32 → Prop
  | 0, _, _, _, _ => False
  | n + 1, s, y1, x3, x4 => (x4 ≤ x3 → post s) ∧ (¬ (x4 ≤ x3) → vp_in x3 n0 ∧ ∀ s_4, s_4 = setJ s 0 c0 x3.toNatClampNeg y1 → ∀ x_5 : Int32, x_5 = x3 + 1 → w_J7_fill_d0a16_6 N c0 n0 post n s_4 y1 x_5 x4)
def w_J7_fill_d0a16 (N : Nat) (c0 : Nat) (n0 : Nat) (x1 : Int64) (s : Sx) (post : Sx → Prop) : Prop := ∀ x_1 : Int32, x_1 = nI n0 → w_J7_fill_d0a16_6 N c0 n0 post N s x1 0 x_1
set_option maxHeartbeats 4000000 in
theorem b_J7_fill_d0a16_6 {X : Kx} {a : Ax} {N : Nat} {c0 : Nat} {n0 : Nat} {post : Sx → Prop}  (hC : Cx X cJ7_fill_d0a16 5 RJ7) (hR : X.R = { frames := 0, cells := 0, slots := 0, locals := 0 }) (hQ : X.Q = MQ X.below (Qv X.G a post) X.av X.s 0 0 (bs_ X.G)) (hr : X.meth.sig.returnType = none) (hc0 : JA 0 c0 n0)  : ∀ (n : Nat) (s : Sx) (y1 : Int64) (x3 : Int32) (x4 : Int32), w_J7_fill_d0a16_6 N c0 n0 post  n s y1 x3 x4 → wk X a s 5 6 [(0, .ref (adr X.G a 0 c0)), (1, .long y1), (3, .int x3), (4, .int x4)] [] 0 0 := by
  intro n
  induction n with
  | zero => intro s y1 x3 x4 h; exact h.elim
  | succ n ih =>
    intro s y1 x3 x4 h
    unfold w_J7_fill_d0a16_6 at h
    refine k_iload_n hC (pc := 6) dJ7_fill_d0a16_6 2 rfl ?_
    refine k_iload hC (pc := 7) dJ7_fill_d0a16_7 3 rfl ?_
    refine k_icmp_ge hC (pc := 9) 22 dJ7_fill_d0a16_9 (by decide) (fun c_2 => ?_) (fun c_2 => ?_)
    · have h := h.1 c_2
      exact k_vret hC (pc := 22) hQ hr dJ7_fill_d0a16_22 h
    · have h := h.2 c_2
      refine k_aload_n hC (pc := 12) dJ7_fill_d0a16_12 0 rfl ?_
      refine k_iload_n hC (pc := 13) dJ7_fill_d0a16_13 2 rfl ?_
      refine k_lload_n hC (pc := 14) dJ7_fill_d0a16_14 1 rfl ?_
      obtain ⟨c_3, h⟩ := h
      refine r_last hC (pc := 15) hc0 c_3 dJ7_fill_d0a16_15 (fun s_4 h_s_4 => ?_)
      have h := h s_4 h_s_4
      obtain ⟨x_5, h_x_5⟩ : ∃ z : Int32, z = x3 + 1 := ⟨_, rfl⟩
      have h := h x_5 h_x_5
      refine k_iincw hC (pc := 16) dJ7_fill_d0a16_16 2 rfl ic_1 h_x_5.symm [(3, .int x_5), (0, .ref (adr X.G a 0 c0)), (1, .long y1), (4, .int x4)] (by decide) rfl ?_
      refine k_goto hC (pc := 19) 6 dJ7_fill_d0a16_19 (by decide) ?_
      refine k_sub [(0, .ref (adr X.G a 0 c0)), (1, .long y1), (3, .int x_5), (4, .int x4)] [1, 2, 0, 3] rfl ?_
      exact ih _ _ _ _ h
set_option maxHeartbeats 4000000 in
theorem b_J7_fill_d0a16 {X : Kx} {a : Ax} {N : Nat} {post : Sx → Prop} (hC : Cx X cJ7_fill_d0a16 5 RJ7) (hR : X.R = { frames := 0, cells := 0, slots := 0, locals := 0 }) (hQ : X.Q = MQ X.below (Qv X.G a post) X.av X.s 0 0 (bs_ X.G)) (hr : X.meth.sig.returnType = none) (hn : X.meth.name = "fill") (s : Sx) (c0 : Nat) (n0 : Nat) (x1 : Int64) (hc0 : JA 0 c0 n0) (h : w_J7_fill_d0a16 N c0 n0 x1 s post) : wk X a s 5 0 [(0, .ref (adr X.G a 0 c0)), (1, .long x1)] [] 0 0 := by
  unfold w_J7_fill_d0a16 at h
  refine k_iconst hC (pc := 0) (v := 0) dJ7_fill_d0a16_0 ic_0 ?_
  refine k_istore_n hC (pc := 1) dJ7_fill_d0a16_1 [(3, .int 0), (0, .ref (adr X.G a 0 c0)), (1, .long x1)] (by decide) rfl ?_
  refine k_aload_n hC (pc := 2) dJ7_fill_d0a16_2 1 rfl ?_
  refine r_alenJ hC (pc := 3) hc0 rfl dJ7_fill_d0a16_3 ?_
  refine k_topi (fun x_1 h_x_1 => ?_)
  have h := h x_1 h_x_1
  refine k_istore hC (pc := 4) dJ7_fill_d0a16_4 [(4, .int x_1), (3, .int 0), (0, .ref (adr X.G a 0 c0)), (1, .long x1)] (by decide) rfl ?_
  refine k_sub [(0, .ref (adr X.G a 0 c0)), (1, .long x1), (3, .int 0), (4, .int x_1)] [2, 3, 1, 0] rfl ?_
  exact b_J7_fill_d0a16_6 hC hR hQ hr hc0 N _ _ _ _ h
theorem ct_J7_fill_d0a16 {l : Launch} {G : Gx} {a : Ax} {s : Sx} {N : Nat} {post : Sx → Prop} (c0 : Nat) (n0 : Nat) (x1 : Int64) (hc0 : JA 0 c0 n0) (h : w_J7_fill_d0a16 N c0 n0 x1 s post) : Met l yJ7_fill_d0a16 (Cond.code yJ7_fill_d0a16 cJ7_fill_d0a16 5 none :: gw) { frames := 0, cells := 0, slots := 0, locals := 0 } (va_Pc [.ref (adr G a 0 c0), .long x1] (fun U => FU G a s U)) (Qv G a post) 0 0 (bs_ G) := met_of (plainFor_of_name (by decide)) (Nat.le_of_ble_eq_true rfl) rfl (fun X hC hl hR hQ hr hG hn => by subst hG; exact b_J7_fill_d0a16 hC hR hQ hr hn s c0 n0 x1 hc0 h)
theorem ca_J7_fill_d0a16 : Ca yJ7_fill_d0a16 cJ7_fill_d0a16 5 none 2 := ⟨cd_J7_fill_d0a16, ii_RJ7, by decide, by decide, by decide +kernel⟩
def w_J9_min_f86c9 (N : Nat) (x0 : Int64) (x2 : Int64) (s : Sx) (post : Int64 → Sx → Prop) : Prop := (0 < (lg_cmp x0 x2) → post x2 s) ∧ (¬ (0 < (lg_cmp x0 x2)) → post x0 s)
set_option maxHeartbeats 4000000 in
theorem b_J9_min_f86c9 {X : Kx} {a : Ax} {N : Nat} {post : Int64 → Sx → Prop} (hC : Cx X cJ9_min_f86c9 4 RJ9) (hR : X.R = { frames := 0, cells := 0, slots := 0, locals := 0 }) (hQ : X.Q = MQ X.below (Ql X.G a post) X.av X.s 0 0 (bs_ X.G)) (hr : X.meth.sig.returnType = (some .long)) (hn : X.meth.name = "min") (s : Sx) (x0 : Int64) (x2 : Int64) (h : w_J9_min_f86c9 N x0 x2 s post) : wk X a s 4 0 [(0, .long x0), (2, .long x2)] [] 0 0 := by
  unfold w_J9_min_f86c9 at h
  refine k_lload_n hC (pc := 0) dJ9_min_f86c9_0 0 rfl ?_
  refine k_lload_n hC (pc := 1) dJ9_min_f86c9_1 1 rfl ?_
  refine k_lcmp hC (pc := 2) dJ9_min_f86c9_2 ?_
  refine k_if_gt hC (pc := 3) 10 dJ9_min_f86c9_3 (by decide) (fun c_1 => ?_) (fun c_1 => ?_)
  · have h := h.1 c_1
    refine k_lload_n hC (pc := 10) dJ9_min_f86c9_10 1 rfl ?_
    exact k_lret hC (pc := 11) hQ hr dJ9_min_f86c9_11 h
  · have h := h.2 c_1
    refine k_lload_n hC (pc := 6) dJ9_min_f86c9_6 0 rfl ?_
    refine k_goto hC (pc := 7) 11 dJ9_min_f86c9_7 (by decide) ?_
    exact k_lret hC (pc := 11) hQ hr dJ9_min_f86c9_11 h
theorem ct_J9_min_f86c9 {l : Launch} {G : Gx} {a : Ax} {s : Sx} {N : Nat} {post : Int64 → Sx → Prop} (x0 : Int64) (x2 : Int64) (h : w_J9_min_f86c9 N x0 x2 s post) : Met l yJ9_min_f86c9 (Cond.code yJ9_min_f86c9 cJ9_min_f86c9 4 (some .long) :: gw) { frames := 0, cells := 0, slots := 0, locals := 0 } (va_Pc [.long x0, .long x2] (fun U => FU G a s U)) (Ql G a post) 0 0 (bs_ G) := met_of (by decide +kernel) (Nat.le_of_ble_eq_true rfl) rfl (fun X hC hl hR hQ hr hG hn => by subst hG; exact b_J9_min_f86c9 hC hR hQ hr hn s x0 x2 h)
theorem ca_J9_min_f86c9 : Ca yJ9_min_f86c9 cJ9_min_f86c9 4 (some .long) 2 := ⟨cd_J9_min_f86c9, ii_RJ9, by decide, by decide, by decide +kernel⟩
def w_J9_max_7cf53 (N : Nat) (x0 : Int32) (x1 : Int32) (s : Sx) (post : Int32 → Sx → Prop) : Prop := (x0 < x1 → post x1 s) ∧ (¬ (x0 < x1) → post x0 s)
set_option maxHeartbeats 4000000 in
theorem b_J9_max_7cf53 {X : Kx} {a : Ax} {N : Nat} {post : Int32 → Sx → Prop} (hC : Cx X cJ9_max_7cf53 2 RJ9) (hR : X.R = { frames := 0, cells := 0, slots := 0, locals := 0 }) (hQ : X.Q = MQ X.below (Qi X.G a post) X.av X.s 0 0 (bs_ X.G)) (hr : X.meth.sig.returnType = (some .int)) (hn : X.meth.name = "max") (s : Sx) (x0 : Int32) (x1 : Int32) (h : w_J9_max_7cf53 N x0 x1 s post) : wk X a s 2 0 [(0, .int x0), (1, .int x1)] [] 0 0 := by
  unfold w_J9_max_7cf53 at h
  refine k_iload_n hC (pc := 0) dJ9_max_7cf53_0 0 rfl ?_
  refine k_iload_n hC (pc := 1) dJ9_max_7cf53_1 1 rfl ?_
  refine k_icmp_lt hC (pc := 2) 9 dJ9_max_7cf53_2 (by decide) (fun c_1 => ?_) (fun c_1 => ?_)
  · have h := h.1 c_1
    refine k_iload_n hC (pc := 9) dJ9_max_7cf53_9 1 rfl ?_
    exact k_iret hC (pc := 10) hQ hr dJ9_max_7cf53_10 h
  · have h := h.2 c_1
    refine k_iload_n hC (pc := 5) dJ9_max_7cf53_5 0 rfl ?_
    refine k_goto hC (pc := 6) 10 dJ9_max_7cf53_6 (by decide) ?_
    exact k_iret hC (pc := 10) hQ hr dJ9_max_7cf53_10 h
theorem ct_J9_max_7cf53 {l : Launch} {G : Gx} {a : Ax} {s : Sx} {N : Nat} {post : Int32 → Sx → Prop} (x0 : Int32) (x1 : Int32) (h : w_J9_max_7cf53 N x0 x1 s post) : Met l yJ9_max_7cf53 (Cond.code yJ9_max_7cf53 cJ9_max_7cf53 2 (some .int) :: gw) { frames := 0, cells := 0, slots := 0, locals := 0 } (va_Pc [.int x0, .int x1] (fun U => FU G a s U)) (Qi G a post) 0 0 (bs_ G) := met_of (by decide +kernel) (Nat.le_of_ble_eq_true rfl) rfl (fun X hC hl hR hQ hr hG hn => by subst hG; exact b_J9_max_7cf53 hC hR hQ hr hn s x0 x1 h)
theorem ca_J9_max_7cf53 : Ca yJ9_max_7cf53 cJ9_max_7cf53 2 (some .int) 2 := ⟨cd_J9_max_7cf53, ii_RJ9, by decide, by decide, by decide +kernel⟩
def w_J6_bitCount_0f7a4 (N : Nat) (x0 : Int32) (s : Sx) (post : Int32 → Sx → Prop) : Prop := ∀ x_1 : Int32, x_1 = x0 - (((x0.toUInt32 >>> ((1 : Int32).toUInt32 &&& Int32.toUInt32 31)).toInt32) &&& 1431655765) → ∀ x_2 : Int32, x_2 = (x_1 &&& 858993459) + (((x_1.toUInt32 >>> ((2 : Int32).toUInt32 &&& Int32.toUInt32 31)).toInt32) &&& 858993459) → ∀ x_3 : Int32, x_3 = (x_2 + ((x_2.toUInt32 >>> ((4 : Int32).toUInt32 &&& Int32.toUInt32 31)).toInt32)) &&& 252645135 → ∀ x_4 : Int32, x_4 = x_3 + ((x_3.toUInt32 >>> ((8 : Int32).toUInt32 &&& Int32.toUInt32 31)).toInt32) → ∀ x_5 : Int32, x_5 = x_4 + ((x_4.toUInt32 >>> ((16 : Int32).toUInt32 &&& Int32.toUInt32 31)).toInt32) → post (x_5 &&& 63) s
set_option maxHeartbeats 4000000 in
theorem b_J6_bitCount_0f7a4 {X : Kx} {a : Ax} {N : Nat} {post : Int32 → Sx → Prop} (hC : Cx X cJ6_bitCount_0f7a4 1 RJ6) (hR : X.R = { frames := 0, cells := 0, slots := 0, locals := 0 }) (hQ : X.Q = MQ X.below (Qi X.G a post) X.av X.s 0 0 (bs_ X.G)) (hr : X.meth.sig.returnType = (some .int)) (hn : X.meth.name = "bitCount") (s : Sx) (x0 : Int32) (h : w_J6_bitCount_0f7a4 N x0 s post) : wk X a s 1 0 [(0, .int x0)] [] 0 0 := by
  unfold w_J6_bitCount_0f7a4 at h
  refine k_iload_n hC (pc := 0) dJ6_bitCount_0f7a4_0 0 rfl ?_
  refine k_iload_n hC (pc := 1) dJ6_bitCount_0f7a4_1 0 rfl ?_
  refine k_iconst hC (pc := 2) (v := 1) dJ6_bitCount_0f7a4_2 ic_1 ?_
  refine k_iushr hC (pc := 3) dJ6_bitCount_0f7a4_3 ?_
  refine k_ldcw hC (pc := 4) dJ6_bitCount_0f7a4_4 cn_RJ6_265 ?_
  refine k_iand hC (pc := 7) dJ6_bitCount_0f7a4_7 ?_
  refine k_isub hC (pc := 8) dJ6_bitCount_0f7a4_8 ?_
  refine k_topi (fun x_1 h_x_1 => ?_)
  have h := h x_1 h_x_1
  refine k_istore_n hC (pc := 9) dJ6_bitCount_0f7a4_9 [(0, .int x_1)] (by decide) rfl ?_
  refine k_iload_n hC (pc := 10) dJ6_bitCount_0f7a4_10 0 rfl ?_
  refine k_ldcw hC (pc := 11) dJ6_bitCount_0f7a4_11 cn_RJ6_266 ?_
  refine k_iand hC (pc := 14) dJ6_bitCount_0f7a4_14 ?_
  refine k_iload_n hC (pc := 15) dJ6_bitCount_0f7a4_15 0 rfl ?_
  refine k_iconst hC (pc := 16) (v := 2) dJ6_bitCount_0f7a4_16 ic_2 ?_
  refine k_iushr hC (pc := 17) dJ6_bitCount_0f7a4_17 ?_
  refine k_ldcw hC (pc := 18) dJ6_bitCount_0f7a4_18 cn_RJ6_266 ?_
  refine k_iand hC (pc := 21) dJ6_bitCount_0f7a4_21 ?_
  refine k_iadd hC (pc := 22) dJ6_bitCount_0f7a4_22 ?_
  refine k_topi (fun x_2 h_x_2 => ?_)
  have h := h x_2 h_x_2
  refine k_istore_n hC (pc := 23) dJ6_bitCount_0f7a4_23 [(0, .int x_2)] (by decide) rfl ?_
  refine k_iload_n hC (pc := 24) dJ6_bitCount_0f7a4_24 0 rfl ?_
  refine k_iload_n hC (pc := 25) dJ6_bitCount_0f7a4_25 0 rfl ?_
  refine k_iconst hC (pc := 26) (v := 4) dJ6_bitCount_0f7a4_26 ic_4 ?_
  refine k_iushr hC (pc := 27) dJ6_bitCount_0f7a4_27 ?_
  refine k_iadd hC (pc := 28) dJ6_bitCount_0f7a4_28 ?_
  refine k_ldcw hC (pc := 29) dJ6_bitCount_0f7a4_29 cn_RJ6_267 ?_
  refine k_iand hC (pc := 32) dJ6_bitCount_0f7a4_32 ?_
  refine k_topi (fun x_3 h_x_3 => ?_)
  have h := h x_3 h_x_3
  refine k_istore_n hC (pc := 33) dJ6_bitCount_0f7a4_33 [(0, .int x_3)] (by decide) rfl ?_
  refine k_iload_n hC (pc := 34) dJ6_bitCount_0f7a4_34 0 rfl ?_
  refine k_iload_n hC (pc := 35) dJ6_bitCount_0f7a4_35 0 rfl ?_
  refine k_bipush hC (pc := 36) (v := 8) dJ6_bitCount_0f7a4_36 bp_8 ?_
  refine k_iushr hC (pc := 38) dJ6_bitCount_0f7a4_38 ?_
  refine k_iadd hC (pc := 39) dJ6_bitCount_0f7a4_39 ?_
  refine k_topi (fun x_4 h_x_4 => ?_)
  have h := h x_4 h_x_4
  refine k_istore_n hC (pc := 40) dJ6_bitCount_0f7a4_40 [(0, .int x_4)] (by decide) rfl ?_
  refine k_iload_n hC (pc := 41) dJ6_bitCount_0f7a4_41 0 rfl ?_
  refine k_iload_n hC (pc := 42) dJ6_bitCount_0f7a4_42 0 rfl ?_
  refine k_bipush hC (pc := 43) (v := 16) dJ6_bitCount_0f7a4_43 bp_16 ?_
  refine k_iushr hC (pc := 45) dJ6_bitCount_0f7a4_45 ?_
  refine k_iadd hC (pc := 46) dJ6_bitCount_0f7a4_46 ?_
  refine k_topi (fun x_5 h_x_5 => ?_)
  have h := h x_5 h_x_5
  refine k_istore_n hC (pc := 47) dJ6_bitCount_0f7a4_47 [(0, .int x_5)] (by decide) rfl ?_
  refine k_iload_n hC (pc := 48) dJ6_bitCount_0f7a4_48 0 rfl ?_
  refine k_bipush hC (pc := 49) (v := 63) dJ6_bitCount_0f7a4_49 bp_63 ?_
  refine k_iand hC (pc := 51) dJ6_bitCount_0f7a4_51 ?_
  exact k_iret hC (pc := 52) hQ hr dJ6_bitCount_0f7a4_52 h
theorem ct_J6_bitCount_0f7a4 {l : Launch} {G : Gx} {a : Ax} {s : Sx} {N : Nat} {post : Int32 → Sx → Prop} (x0 : Int32) (h : w_J6_bitCount_0f7a4 N x0 s post) : Met l yJ6_bitCount_0f7a4 (Cond.code yJ6_bitCount_0f7a4 cJ6_bitCount_0f7a4 1 (some .int) :: gw) { frames := 0, cells := 0, slots := 0, locals := 0 } (va_Pc [.int x0] (fun U => FU G a s U)) (Qi G a post) 0 0 (bs_ G) := met_of (plainFor_of_name (by decide)) (Nat.le_of_ble_eq_true rfl) rfl (fun X hC hl hR hQ hr hG hn => by subst hG; exact b_J6_bitCount_0f7a4 hC hR hQ hr hn s x0 h)
theorem ca_J6_bitCount_0f7a4 : Ca yJ6_bitCount_0f7a4 cJ6_bitCount_0f7a4 1 (some .int) 1 := ⟨cd_J6_bitCount_0f7a4, ii_RJ6, by decide, by decide, by decide +kernel⟩
def w_J7_fill_53178_5 (N : Nat) (c0 : Nat) (n0 : Nat) (post : Sx → Prop) : Nat → Sx → Int32 → Int32 → Int32 → Prop
  | 0, _, _, _, _ => False
  | n + 1, s, x1, x2, x3 => (x3 ≤ x2 → post s) ∧ (¬ (x3 ≤ x2) → vp_in x2 n0 ∧ ∀ s_4, s_4 = setI s 0 c0 x2.toNatClampNeg x1 → ∀ x_5 : Int32, x_5 = x2 + 1 → w_J7_fill_53178_5 N c0 n0 post n s_4 x1 x_5 x3)
def w_J7_fill_53178 (N : Nat) (c0 : Nat) (n0 : Nat) (x1 : Int32) (s : Sx) (post : Sx → Prop) : Prop := ∀ x_1 : Int32, x_1 = nI n0 → w_J7_fill_53178_5 N c0 n0 post N s x1 0 x_1
set_option maxHeartbeats 4000000 in
theorem b_J7_fill_53178_5 {X : Kx} {a : Ax} {N : Nat} {c0 : Nat} {n0 : Nat} {post : Sx → Prop}  (hC : Cx X cJ7_fill_53178 4 RJ7) (hR : X.R = { frames := 0, cells := 0, slots := 0, locals := 0 }) (hQ : X.Q = MQ X.below (Qv X.G a post) X.av X.s 0 0 (bs_ X.G)) (hr : X.meth.sig.returnType = none) (hc0 : IA 0 c0 n0)  : ∀ (n : Nat) (s : Sx) (x1 : Int32) (x2 : Int32) (x3 : Int32), w_J7_fill_53178_5 N c0 n0 post  n s x1 x2 x3 → wk X a s 4 5 [(0, .ref (adr X.G a 0 c0)), (1, .int x1), (2, .int x2), (3, .int x3)] [] 0 0 := by
  intro n
  induction n with
  | zero => intro s x1 x2 x3 h; exact h.elim
  | succ n ih =>
    intro s x1 x2 x3 h
    unfold w_J7_fill_53178_5 at h
    refine k_iload_n hC (pc := 5) dJ7_fill_53178_5 2 rfl ?_
    refine k_iload_n hC (pc := 6) dJ7_fill_53178_6 3 rfl ?_
    refine k_icmp_ge hC (pc := 7) 20 dJ7_fill_53178_7 (by decide) (fun c_2 => ?_) (fun c_2 => ?_)
    · have h := h.1 c_2
      exact k_vret hC (pc := 20) hQ hr dJ7_fill_53178_20 h
    · have h := h.2 c_2
      refine k_aload_n hC (pc := 10) dJ7_fill_53178_10 0 rfl ?_
      refine k_iload_n hC (pc := 11) dJ7_fill_53178_11 2 rfl ?_
      refine k_iload_n hC (pc := 12) dJ7_fill_53178_12 1 rfl ?_
      obtain ⟨c_3, h⟩ := h
      refine r_iast hC (pc := 13) hc0 c_3 dJ7_fill_53178_13 (fun s_4 h_s_4 => ?_)
      have h := h s_4 h_s_4
      obtain ⟨x_5, h_x_5⟩ : ∃ z : Int32, z = x2 + 1 := ⟨_, rfl⟩
      have h := h x_5 h_x_5
      refine k_iincw hC (pc := 14) dJ7_fill_53178_14 2 rfl ic_1 h_x_5.symm [(2, .int x_5), (0, .ref (adr X.G a 0 c0)), (1, .int x1), (3, .int x3)] (by decide) rfl ?_
      refine k_goto hC (pc := 17) 5 dJ7_fill_53178_17 (by decide) ?_
      refine k_sub [(0, .ref (adr X.G a 0 c0)), (1, .int x1), (2, .int x_5), (3, .int x3)] [1, 2, 0, 3] rfl ?_
      exact ih _ _ _ _ h
set_option maxHeartbeats 4000000 in
theorem b_J7_fill_53178 {X : Kx} {a : Ax} {N : Nat} {post : Sx → Prop} (hC : Cx X cJ7_fill_53178 4 RJ7) (hR : X.R = { frames := 0, cells := 0, slots := 0, locals := 0 }) (hQ : X.Q = MQ X.below (Qv X.G a post) X.av X.s 0 0 (bs_ X.G)) (hr : X.meth.sig.returnType = none) (hn : X.meth.name = "fill") (s : Sx) (c0 : Nat) (n0 : Nat) (x1 : Int32) (hc0 : IA 0 c0 n0) (h : w_J7_fill_53178 N c0 n0 x1 s post) : wk X a s 4 0 [(0, .ref (adr X.G a 0 c0)), (1, .int x1)] [] 0 0 := by
  unfold w_J7_fill_53178 at h
  refine k_iconst hC (pc := 0) (v := 0) dJ7_fill_53178_0 ic_0 ?_
  refine k_istore_n hC (pc := 1) dJ7_fill_53178_1 [(2, .int 0), (0, .ref (adr X.G a 0 c0)), (1, .int x1)] (by decide) rfl ?_
  refine k_aload_n hC (pc := 2) dJ7_fill_53178_2 1 rfl ?_
  refine r_alenI hC (pc := 3) hc0 rfl dJ7_fill_53178_3 ?_
  refine k_topi (fun x_1 h_x_1 => ?_)
  have h := h x_1 h_x_1
  refine k_istore_n hC (pc := 4) dJ7_fill_53178_4 [(3, .int x_1), (2, .int 0), (0, .ref (adr X.G a 0 c0)), (1, .int x1)] (by decide) rfl ?_
  refine k_sub [(0, .ref (adr X.G a 0 c0)), (1, .int x1), (2, .int 0), (3, .int x_1)] [2, 3, 1, 0] rfl ?_
  exact b_J7_fill_53178_5 hC hR hQ hr hc0 N _ _ _ _ h
theorem ct_J7_fill_53178 {l : Launch} {G : Gx} {a : Ax} {s : Sx} {N : Nat} {post : Sx → Prop} (c0 : Nat) (n0 : Nat) (x1 : Int32) (hc0 : IA 0 c0 n0) (h : w_J7_fill_53178 N c0 n0 x1 s post) : Met l yJ7_fill_53178 (Cond.code yJ7_fill_53178 cJ7_fill_53178 4 none :: gw) { frames := 0, cells := 0, slots := 0, locals := 0 } (va_Pc [.ref (adr G a 0 c0), .int x1] (fun U => FU G a s U)) (Qv G a post) 0 0 (bs_ G) := met_of (plainFor_of_name (by decide)) (Nat.le_of_ble_eq_true rfl) rfl (fun X hC hl hR hQ hr hG hn => by subst hG; exact b_J7_fill_53178 hC hR hQ hr hn s c0 n0 x1 hc0 h)
theorem ca_J7_fill_53178 : Ca yJ7_fill_53178 cJ7_fill_53178 4 none 2 := ⟨cd_J7_fill_53178, ii_RJ7, by decide, by decide, by decide +kernel⟩
def w_X12_fails (N : Nat) (x1 : Int32) (s : Sx) (post : Int32 → Sx → Prop) : Prop := ∀ s_1, s_1 = setI s 6 0 0 x1 → post (((-10)) - x1) s_1
set_option maxHeartbeats 4000000 in
theorem b_X12_fails {X : Kx} {a : Ax} {N : Nat} {post : Int32 → Sx → Prop} (hC : Cx X cX12_fails 2 RX12) (hR : X.R = { frames := 0, cells := 0, slots := 0, locals := 0 }) (hQ : X.Q = MQ X.below (Qi X.G a post) X.av X.s 0 0 (bs_ X.G)) (hr : X.meth.sig.returnType = (some .int)) (hn : X.meth.name = "fails") (s : Sx) (x1 : Int32) (h : w_X12_fails N x1 s post) : wk X a s 2 0 [(0, .ref (adr X.G a 6 0)), (1, .int x1)] [] 0 0 := by
  unfold w_X12_fails at h
  refine k_aload_n hC (pc := 0) dX12_fails_0 0 rfl ?_
  refine k_iload_n hC (pc := 1) dX12_fails_1 1 rfl ?_
  refine pf_X12_0 hC (pc := 2)  fl_RX12_181 dX12_fails_2 (fun s_1 h_s_1 => ?_)
  have h := h s_1 h_s_1
  refine k_bipush hC (pc := 5) (v := (-10)) dX12_fails_5 bp_m10 ?_
  refine k_iload_n hC (pc := 7) dX12_fails_7 1 rfl ?_
  refine k_isub hC (pc := 8) dX12_fails_8 ?_
  exact k_iret hC (pc := 9) hQ hr dX12_fails_9 h
theorem ct_X12_fails {l : Launch} {G : Gx} {a : Ax} {s : Sx} {N : Nat} {post : Int32 → Sx → Prop} (x1 : Int32) (h : w_X12_fails N x1 s post) : Met l yX12_fails (Cond.code yX12_fails cX12_fails 2 (some .int) :: gw) { frames := 0, cells := 0, slots := 0, locals := 0 } (va_Pc [.ref (adr G a 6 0), .int x1] (fun U => FU G a s U)) (Qi G a post) 0 0 (bs_ G) := met_of (plainFor_of_name (by decide)) (Nat.le_of_ble_eq_true rfl) rfl (fun X hC hl hR hQ hr hG hn => by subst hG; exact b_X12_fails hC hR hQ hr hn s x1 h)
theorem ca_X12_fails : Ca yX12_fails cX12_fails 2 (some .int) 1 := ⟨cd_X12_fails, ii_RX12, by decide, by decide, by decide +kernel⟩
def w_X12_lostBeing (N : Nat) (x1 : Int32) (s : Sx) (post : Int64 → Sx → Prop) : Prop := ∀ s_1, s_1 = setI s 6 0 0 x1 → post ((-9223372036854775808)) s_1
set_option maxHeartbeats 4000000 in
theorem b_X12_lostBeing {X : Kx} {a : Ax} {N : Nat} {post : Int64 → Sx → Prop} (hC : Cx X cX12_lostBeing 2 RX12) (hR : X.R = { frames := 0, cells := 0, slots := 0, locals := 0 }) (hQ : X.Q = MQ X.below (Ql X.G a post) X.av X.s 0 0 (bs_ X.G)) (hr : X.meth.sig.returnType = (some .long)) (hn : X.meth.name = "lostBeing") (s : Sx) (x1 : Int32) (h : w_X12_lostBeing N x1 s post) : wk X a s 2 0 [(0, .ref (adr X.G a 6 0)), (1, .int x1)] [] 0 0 := by
  unfold w_X12_lostBeing at h
  refine k_aload_n hC (pc := 0) dX12_lostBeing_0 0 rfl ?_
  refine k_iload_n hC (pc := 1) dX12_lostBeing_1 1 rfl ?_
  refine pf_X12_0 hC (pc := 2)  fl_RX12_181 dX12_lostBeing_2 (fun s_1 h_s_1 => ?_)
  have h := h s_1 h_s_1
  refine k_ldc2 hC (pc := 5) dX12_lostBeing_5 cn_RX12_184 ?_
  exact k_lret hC (pc := 8) hQ hr dX12_lostBeing_8 h
theorem ct_X12_lostBeing {l : Launch} {G : Gx} {a : Ax} {s : Sx} {N : Nat} {post : Int64 → Sx → Prop} (x1 : Int32) (h : w_X12_lostBeing N x1 s post) : Met l yX12_lostBeing (Cond.code yX12_lostBeing cX12_lostBeing 2 (some .long) :: gw) { frames := 0, cells := 0, slots := 0, locals := 0 } (va_Pc [.ref (adr G a 6 0), .int x1] (fun U => FU G a s U)) (Ql G a post) 0 0 (bs_ G) := met_of (plainFor_of_name (by decide)) (Nat.le_of_ble_eq_true rfl) rfl (fun X hC hl hR hQ hr hG hn => by subst hG; exact b_X12_lostBeing hC hR hQ hr hn s x1 h)
theorem ca_X12_lostBeing : Ca yX12_lostBeing cX12_lostBeing 2 (some .long) 1 := ⟨cd_X12_lostBeing, ii_RX12, by decide, by decide, by decide +kernel⟩
def w_X12_within (N : Nat) (x0 : Int32) (x1 : Int32) (x2 : Int32) (s : Sx) (post : Int32 → Sx → Prop) : Prop := (x0 < x1 → post 0 s) ∧ (¬ (x0 < x1) → (x2 < x0 → post 0 s) ∧ (¬ (x2 < x0) → post 1 s))
set_option maxHeartbeats 4000000 in
theorem b_X12_within {X : Kx} {a : Ax} {N : Nat} {post : Int32 → Sx → Prop} (hC : Cx X cX12_within 3 RX12) (hR : X.R = { frames := 0, cells := 0, slots := 0, locals := 0 }) (hQ : X.Q = MQ X.below (Qi X.G a post) X.av X.s 0 0 (bs_ X.G)) (hr : X.meth.sig.returnType = (some .boolean)) (hn : X.meth.name = "within") (s : Sx) (x0 : Int32) (x1 : Int32) (x2 : Int32) (h : w_X12_within N x0 x1 x2 s post) : wk X a s 3 0 [(0, .int x0), (1, .int x1), (2, .int x2)] [] 0 0 := by
  unfold w_X12_within at h
  refine k_iload_n hC (pc := 0) dX12_within_0 0 rfl ?_
  refine k_iload_n hC (pc := 1) dX12_within_1 1 rfl ?_
  refine k_icmp_lt hC (pc := 2) 14 dX12_within_2 (by decide) (fun c_1 => ?_) (fun c_1 => ?_)
  · have h := h.1 c_1
    refine k_iconst hC (pc := 14) (v := 0) dX12_within_14 ic_0 ?_
    exact k_zret hC (pc := 15) hQ hr dX12_within_15 (Or.inl rfl) h
  · have h := h.2 c_1
    refine k_iload_n hC (pc := 5) dX12_within_5 0 rfl ?_
    refine k_iload_n hC (pc := 6) dX12_within_6 2 rfl ?_
    refine k_icmp_gt hC (pc := 7) 14 dX12_within_7 (by decide) (fun c_2 => ?_) (fun c_2 => ?_)
    · have h := h.1 c_2
      refine k_iconst hC (pc := 14) (v := 0) dX12_within_14 ic_0 ?_
      exact k_zret hC (pc := 15) hQ hr dX12_within_15 (Or.inl rfl) h
    · have h := h.2 c_2
      refine k_iconst hC (pc := 10) (v := 1) dX12_within_10 ic_1 ?_
      refine k_goto hC (pc := 11) 15 dX12_within_11 (by decide) ?_
      exact k_zret hC (pc := 15) hQ hr dX12_within_15 (Or.inr rfl) h
theorem ct_X12_within {l : Launch} {G : Gx} {a : Ax} {s : Sx} {N : Nat} {post : Int32 → Sx → Prop} (x0 : Int32) (x1 : Int32) (x2 : Int32) (h : w_X12_within N x0 x1 x2 s post) : Met l yX12_within (Cond.code yX12_within cX12_within 3 (some .boolean) :: gw) { frames := 0, cells := 0, slots := 0, locals := 0 } (va_Pc [.int x0, .int x1, .int x2] (fun U => FU G a s U)) (Qi G a post) 0 0 (bs_ G) := met_of (plainFor_of_name (by decide)) (Nat.le_of_ble_eq_true rfl) rfl (fun X hC hl hR hQ hr hG hn => by subst hG; exact b_X12_within hC hR hQ hr hn s x0 x1 x2 h)
theorem ca_X12_within : Ca yX12_within cX12_within 3 (some .boolean) 3 := ⟨cd_X12_within, ii_RX12, by decide, by decide, by decide +kernel⟩
def w_X12_size (N : Nat) (x0 : Int32) (s : Sx) (post : Int32 → Sx → Prop) : Prop := (0 ≤ x0 → post x0 s) ∧ (¬ (0 ≤ x0) → post (-x0) s)
set_option maxHeartbeats 4000000 in
theorem b_X12_size {X : Kx} {a : Ax} {N : Nat} {post : Int32 → Sx → Prop} (hC : Cx X cX12_size 1 RX12) (hR : X.R = { frames := 0, cells := 0, slots := 0, locals := 0 }) (hQ : X.Q = MQ X.below (Qi X.G a post) X.av X.s 0 0 (bs_ X.G)) (hr : X.meth.sig.returnType = (some .int)) (hn : X.meth.name = "size") (s : Sx) (x0 : Int32) (h : w_X12_size N x0 s post) : wk X a s 1 0 [(0, .int x0)] [] 0 0 := by
  unfold w_X12_size at h
  refine k_iload_n hC (pc := 0) dX12_size_0 0 rfl ?_
  refine k_if_ge hC (pc := 1) 9 dX12_size_1 (by decide) (fun c_1 => ?_) (fun c_1 => ?_)
  · have h := h.1 c_1
    refine k_iload_n hC (pc := 9) dX12_size_9 0 rfl ?_
    exact k_iret hC (pc := 10) hQ hr dX12_size_10 h
  · have h := h.2 c_1
    refine k_iload_n hC (pc := 4) dX12_size_4 0 rfl ?_
    refine k_ineg hC (pc := 5) dX12_size_5 ?_
    refine k_goto hC (pc := 6) 10 dX12_size_6 (by decide) ?_
    exact k_iret hC (pc := 10) hQ hr dX12_size_10 h
theorem ct_X12_size {l : Launch} {G : Gx} {a : Ax} {s : Sx} {N : Nat} {post : Int32 → Sx → Prop} (x0 : Int32) (h : w_X12_size N x0 s post) : Met l yX12_size (Cond.code yX12_size cX12_size 1 (some .int) :: gw) { frames := 0, cells := 0, slots := 0, locals := 0 } (va_Pc [.int x0] (fun U => FU G a s U)) (Qi G a post) 0 0 (bs_ G) := met_of (plainFor_of_name (by decide)) (Nat.le_of_ble_eq_true rfl) rfl (fun X hC hl hR hQ hr hG hn => by subst hG; exact b_X12_size hC hR hQ hr hn s x0 h)
theorem ca_X12_size : Ca yX12_size cX12_size 1 (some .int) 1 := ⟨cd_X12_size, ii_RX12, by decide, by decide, by decide +kernel⟩
def w_X12_isDay (N : Nat) (x0 : Int32) (s : Sx) (post : Int32 → Sx → Prop) : Prop := w_X12_within N x0 0 399 s (fun r_2 s_1 => (r_2 = 0 ∨ r_2 = 1) ∧ post r_2 s_1)
set_option maxHeartbeats 4000000 in
theorem b_X12_isDay {X : Kx} {a : Ax} {N : Nat} {post : Int32 → Sx → Prop} (hC : Cx X cX12_isDay 1 RX12) (hR : X.R = { frames := 1, cells := 0, slots := 0, locals := 22 }) (hQ : X.Q = MQ X.below (Qi X.G a post) X.av X.s 0 0 (bs_ X.G)) (hr : X.meth.sig.returnType = (some .boolean)) (hn : X.meth.name = "isDay") (s : Sx) (x0 : Int32) (h : w_X12_isDay N x0 s post) : wk X a s 1 0 [(0, .int x0)] [] 0 0 := by
  unfold w_X12_isDay at h
  refine k_iload_n hC (pc := 0) dX12_isDay_0 0 rfl ?_
  refine k_iconst hC (pc := 1) (v := 0) dX12_isDay_1 ic_0 ?_
  refine k_sipush hC (pc := 2) (v := 399) dX12_isDay_2 sp_399 ?_
  refine k_ci (rn_S hC (pc := 5) (As := [.int x0, .int 0, .int 399]) (rest := []) ca_X12_within ml_RX12_186 sm_X12_within (ct_X12_within x0 0 399 h) (by rw [hR]; exact ⟨rfl, rfl, by decide, by decide⟩) rfl (Nat.le_of_ble_eq_true rfl) dX12_isDay_5 ⟨by rw [hR]; decide, by rw [hR]; decide⟩) (fun r_2 s_1 h => ?_)
  obtain ⟨c_3, h⟩ := h
  exact k_zret hC (pc := 8) hQ hr dX12_isDay_8 c_3 h
theorem ct_X12_isDay {l : Launch} {G : Gx} {a : Ax} {s : Sx} {N : Nat} {post : Int32 → Sx → Prop} (x0 : Int32) (h : w_X12_isDay N x0 s post) : Met l yX12_isDay (Cond.code yX12_isDay cX12_isDay 1 (some .boolean) :: gw) { frames := 1, cells := 0, slots := 0, locals := 22 } (va_Pc [.int x0] (fun U => FU G a s U)) (Qi G a post) 0 0 (bs_ G) := met_of (plainFor_of_name (by decide)) (Nat.le_of_ble_eq_true rfl) rfl (fun X hC hl hR hQ hr hG hn => by subst hG; exact b_X12_isDay hC hR hQ hr hn s x0 h)
theorem ca_X12_isDay : Ca yX12_isDay cX12_isDay 1 (some .boolean) 1 := ⟨cd_X12_isDay, ii_RX12, by decide, by decide, by decide +kernel⟩
def w_X12_isSheet (N : Nat) (x0 : Int32) (s : Sx) (post : Int32 → Sx → Prop) : Prop := w_X12_within N x0 0 3 s (fun r_2 s_1 => (r_2 = 0 ∨ r_2 = 1) ∧ post r_2 s_1)
set_option maxHeartbeats 4000000 in
theorem b_X12_isSheet {X : Kx} {a : Ax} {N : Nat} {post : Int32 → Sx → Prop} (hC : Cx X cX12_isSheet 1 RX12) (hR : X.R = { frames := 1, cells := 0, slots := 0, locals := 22 }) (hQ : X.Q = MQ X.below (Qi X.G a post) X.av X.s 0 0 (bs_ X.G)) (hr : X.meth.sig.returnType = (some .boolean)) (hn : X.meth.name = "isSheet") (s : Sx) (x0 : Int32) (h : w_X12_isSheet N x0 s post) : wk X a s 1 0 [(0, .int x0)] [] 0 0 := by
  unfold w_X12_isSheet at h
  refine k_iload_n hC (pc := 0) dX12_isSheet_0 0 rfl ?_
  refine k_iconst hC (pc := 1) (v := 0) dX12_isSheet_1 ic_0 ?_
  refine k_iconst hC (pc := 2) (v := 3) dX12_isSheet_2 ic_3 ?_
  refine k_ci (rn_S hC (pc := 3) (As := [.int x0, .int 0, .int 3]) (rest := []) ca_X12_within ml_RX12_186 sm_X12_within (ct_X12_within x0 0 3 h) (by rw [hR]; exact ⟨rfl, rfl, by decide, by decide⟩) rfl (Nat.le_of_ble_eq_true rfl) dX12_isSheet_3 ⟨by rw [hR]; decide, by rw [hR]; decide⟩) (fun r_2 s_1 h => ?_)
  obtain ⟨c_3, h⟩ := h
  exact k_zret hC (pc := 6) hQ hr dX12_isSheet_6 c_3 h
theorem ct_X12_isSheet {l : Launch} {G : Gx} {a : Ax} {s : Sx} {N : Nat} {post : Int32 → Sx → Prop} (x0 : Int32) (h : w_X12_isSheet N x0 s post) : Met l yX12_isSheet (Cond.code yX12_isSheet cX12_isSheet 1 (some .boolean) :: gw) { frames := 1, cells := 0, slots := 0, locals := 22 } (va_Pc [.int x0] (fun U => FU G a s U)) (Qi G a post) 0 0 (bs_ G) := met_of (plainFor_of_name (by decide)) (Nat.le_of_ble_eq_true rfl) rfl (fun X hC hl hR hQ hr hG hn => by subst hG; exact b_X12_isSheet hC hR hQ hr hn s x0 h)
theorem ca_X12_isSheet : Ca yX12_isSheet cX12_isSheet 1 (some .boolean) 1 := ⟨cd_X12_isSheet, ii_RX12, by decide, by decide, by decide +kernel⟩
def w_X12_isLane (N : Nat) (x0 : Int32) (s : Sx) (post : Int32 → Sx → Prop) : Prop := w_X12_within N x0 0 2 s (fun r_2 s_1 => (r_2 = 0 ∨ r_2 = 1) ∧ post r_2 s_1)
set_option maxHeartbeats 4000000 in
theorem b_X12_isLane {X : Kx} {a : Ax} {N : Nat} {post : Int32 → Sx → Prop} (hC : Cx X cX12_isLane 1 RX12) (hR : X.R = { frames := 1, cells := 0, slots := 0, locals := 22 }) (hQ : X.Q = MQ X.below (Qi X.G a post) X.av X.s 0 0 (bs_ X.G)) (hr : X.meth.sig.returnType = (some .boolean)) (hn : X.meth.name = "isLane") (s : Sx) (x0 : Int32) (h : w_X12_isLane N x0 s post) : wk X a s 1 0 [(0, .int x0)] [] 0 0 := by
  unfold w_X12_isLane at h
  refine k_iload_n hC (pc := 0) dX12_isLane_0 0 rfl ?_
  refine k_iconst hC (pc := 1) (v := 0) dX12_isLane_1 ic_0 ?_
  refine k_iconst hC (pc := 2) (v := 2) dX12_isLane_2 ic_2 ?_
  refine k_ci (rn_S hC (pc := 3) (As := [.int x0, .int 0, .int 2]) (rest := []) ca_X12_within ml_RX12_186 sm_X12_within (ct_X12_within x0 0 2 h) (by rw [hR]; exact ⟨rfl, rfl, by decide, by decide⟩) rfl (Nat.le_of_ble_eq_true rfl) dX12_isLane_3 ⟨by rw [hR]; decide, by rw [hR]; decide⟩) (fun r_2 s_1 h => ?_)
  obtain ⟨c_3, h⟩ := h
  exact k_zret hC (pc := 6) hQ hr dX12_isLane_6 c_3 h
theorem ct_X12_isLane {l : Launch} {G : Gx} {a : Ax} {s : Sx} {N : Nat} {post : Int32 → Sx → Prop} (x0 : Int32) (h : w_X12_isLane N x0 s post) : Met l yX12_isLane (Cond.code yX12_isLane cX12_isLane 1 (some .boolean) :: gw) { frames := 1, cells := 0, slots := 0, locals := 22 } (va_Pc [.int x0] (fun U => FU G a s U)) (Qi G a post) 0 0 (bs_ G) := met_of (plainFor_of_name (by decide)) (Nat.le_of_ble_eq_true rfl) rfl (fun X hC hl hR hQ hr hG hn => by subst hG; exact b_X12_isLane hC hR hQ hr hn s x0 h)
theorem ca_X12_isLane : Ca yX12_isLane cX12_isLane 1 (some .boolean) 1 := ⟨cd_X12_isLane, ii_RX12, by decide, by decide, by decide +kernel⟩
def w_X12_against_23 (N : Nat) (post : Int32 → Sx → Prop) (s : Sx) (x1 : Int32) (x3 : Int32) (x4 : Int32) : Prop := vp_in x1 4 ∧ (¬ (s.1 5 2 x1.toNatClampNeg) = ((-9)) → (0 ≤ x4 → (x3 < 0 → post 3 s) ∧ (¬ (x3 < 0) → vp_in x1 4 ∧ ((s.1 5 3 x1.toNatClampNeg) < x3 → post 3 s) ∧ (¬ ((s.1 5 3 x1.toNatClampNeg) < x3) → vp_in x1 4 ∧ (x4 ≤ ((s.1 5 3 x1.toNatClampNeg) - x3) → post 0 s) ∧ (¬ (x4 ≤ ((s.1 5 3 x1.toNatClampNeg) - x3)) → post 3 s)))) ∧ (¬ (0 ≤ x4) → post 4 s)) ∧ (¬ (¬ (s.1 5 2 x1.toNatClampNeg) = ((-9))) → post 1 s)
def w_X12_against (N : Nat) (x1 : Int32) (x2 : Int32) (x3 : Int32) (x4 : Int32) (s : Sx) (post : Int32 → Sx → Prop) : Prop := vp_in x1 4 ∧ ((s.1 5 2 x1.toNatClampNeg) = ((-9)) → w_X12_against_23 N post s x1 x3 x4) ∧ (¬ ((s.1 5 2 x1.toNatClampNeg) = ((-9))) → vp_in x1 4 ∧ ((s.1 5 2 x1.toNatClampNeg) = x2 → w_X12_against_23 N post s x1 x3 x4) ∧ (¬ ((s.1 5 2 x1.toNatClampNeg) = x2) → post 2 s))
set_option maxHeartbeats 4000000 in
theorem b_X12_against_23 {X : Kx} {a : Ax} {N : Nat} {post : Int32 → Sx → Prop}  (hC : Cx X cX12_against 5 RX12) (hR : X.R = { frames := 0, cells := 0, slots := 0, locals := 0 }) (hQ : X.Q = MQ X.below (Qi X.G a post) X.av X.s 0 0 (bs_ X.G)) (hr : X.meth.sig.returnType = (some .int))   (s : Sx) (x1 : Int32) (x3 : Int32) (x4 : Int32) (h : w_X12_against_23 N post  s x1 x3 x4) : wk X a s 5 23 [(0, .ref (adr X.G a 6 0)), (1, .int x1), (3, .int x3), (4, .int x4)] [] 0 0 := by
  unfold w_X12_against_23 at h
  refine k_aload_n hC (pc := 23) dX12_against_23 0 rfl ?_
  refine gf_X12_2 hC (pc := 24)  fl_RX12_9 dX12_against_24 ?_
  refine k_iload_n hC (pc := 27) dX12_against_27 1 rfl ?_
  obtain ⟨c_3, h⟩ := h
  refine r_iald hC (pc := 28) ra5_2 c_3 dX12_against_28 ?_
  refine k_bipush hC (pc := 29) (v := (-9)) dX12_against_29 bp_m9 ?_
  refine k_icmp_ne hC (pc := 31) 36 dX12_against_31 (by decide) (fun c_4 => ?_) (fun c_4 => ?_)
  · have h := h.1 c_4
    refine k_iload hC (pc := 36) dX12_against_36 3 rfl ?_
    refine k_if_ge hC (pc := 38) 43 dX12_against_38 (by decide) (fun c_5 => ?_) (fun c_5 => ?_)
    · have h := h.1 c_5
      refine k_iload_n hC (pc := 43) dX12_against_43 2 rfl ?_
      refine k_if_lt hC (pc := 44) 70 dX12_against_44 (by decide) (fun c_6 => ?_) (fun c_6 => ?_)
      · have h := h.1 c_6
        refine k_iconst hC (pc := 70) (v := 3) dX12_against_70 ic_3 ?_
        exact k_iret hC (pc := 71) hQ hr dX12_against_71 h
      · have h := h.2 c_6
        refine k_iload_n hC (pc := 47) dX12_against_47 2 rfl ?_
        refine k_aload_n hC (pc := 48) dX12_against_48 0 rfl ?_
        refine gf_X12_3 hC (pc := 49)  fl_RX12_13 dX12_against_49 ?_
        refine k_iload_n hC (pc := 52) dX12_against_52 1 rfl ?_
        obtain ⟨c_7, h⟩ := h
        refine r_iald hC (pc := 53) ra5_3 c_7 dX12_against_53 ?_
        refine k_icmp_gt hC (pc := 54) 70 dX12_against_54 (by decide) (fun c_8 => ?_) (fun c_8 => ?_)
        · have h := h.1 c_8
          refine k_iconst hC (pc := 70) (v := 3) dX12_against_70 ic_3 ?_
          exact k_iret hC (pc := 71) hQ hr dX12_against_71 h
        · have h := h.2 c_8
          refine k_iload hC (pc := 57) dX12_against_57 3 rfl ?_
          refine k_aload_n hC (pc := 59) dX12_against_59 0 rfl ?_
          refine gf_X12_3 hC (pc := 60)  fl_RX12_13 dX12_against_60 ?_
          refine k_iload_n hC (pc := 63) dX12_against_63 1 rfl ?_
          obtain ⟨c_9, h⟩ := h
          refine r_iald hC (pc := 64) ra5_3 c_9 dX12_against_64 ?_
          refine k_iload_n hC (pc := 65) dX12_against_65 2 rfl ?_
          refine k_isub hC (pc := 66) dX12_against_66 ?_
          refine k_icmp_le hC (pc := 67) 72 dX12_against_67 (by decide) (fun c_10 => ?_) (fun c_10 => ?_)
          · have h := h.1 c_10
            refine k_iconst hC (pc := 72) (v := 0) dX12_against_72 ic_0 ?_
            exact k_iret hC (pc := 73) hQ hr dX12_against_73 h
          · have h := h.2 c_10
            refine k_iconst hC (pc := 70) (v := 3) dX12_against_70 ic_3 ?_
            exact k_iret hC (pc := 71) hQ hr dX12_against_71 h
    · have h := h.2 c_5
      refine k_iconst hC (pc := 41) (v := 4) dX12_against_41 ic_4 ?_
      exact k_iret hC (pc := 42) hQ hr dX12_against_42 h
  · have h := h.2 c_4
    refine k_iconst hC (pc := 34) (v := 1) dX12_against_34 ic_1 ?_
    exact k_iret hC (pc := 35) hQ hr dX12_against_35 h
set_option maxHeartbeats 4000000 in
theorem b_X12_against {X : Kx} {a : Ax} {N : Nat} {post : Int32 → Sx → Prop} (hC : Cx X cX12_against 5 RX12) (hR : X.R = { frames := 0, cells := 0, slots := 0, locals := 0 }) (hQ : X.Q = MQ X.below (Qi X.G a post) X.av X.s 0 0 (bs_ X.G)) (hr : X.meth.sig.returnType = (some .int)) (hn : X.meth.name = "against") (s : Sx) (x1 : Int32) (x2 : Int32) (x3 : Int32) (x4 : Int32) (h : w_X12_against N x1 x2 x3 x4 s post) : wk X a s 5 0 [(0, .ref (adr X.G a 6 0)), (1, .int x1), (2, .int x2), (3, .int x3), (4, .int x4)] [] 0 0 := by
  unfold w_X12_against at h
  refine k_aload_n hC (pc := 0) dX12_against_0 0 rfl ?_
  refine gf_X12_2 hC (pc := 1)  fl_RX12_9 dX12_against_1 ?_
  refine k_iload_n hC (pc := 4) dX12_against_4 1 rfl ?_
  obtain ⟨c_1, h⟩ := h
  refine r_iald hC (pc := 5) ra5_2 c_1 dX12_against_5 ?_
  refine k_bipush hC (pc := 6) (v := (-9)) dX12_against_6 bp_m9 ?_
  refine k_icmp_eq hC (pc := 8) 23 dX12_against_8 (by decide) (fun c_2 => ?_) (fun c_2 => ?_)
  · have h := h.1 c_2
    refine k_sub [(0, .ref (adr X.G a 6 0)), (1, .int x1), (3, .int x3), (4, .int x4)] [0, 1, 3, 4] rfl ?_
    exact b_X12_against_23 hC hR hQ hr _ _ _ _ h
  · have h := h.2 c_2
    refine k_aload_n hC (pc := 11) dX12_against_11 0 rfl ?_
    refine gf_X12_2 hC (pc := 12)  fl_RX12_9 dX12_against_12 ?_
    refine k_iload_n hC (pc := 15) dX12_against_15 1 rfl ?_
    obtain ⟨c_11, h⟩ := h
    refine r_iald hC (pc := 16) ra5_2 c_11 dX12_against_16 ?_
    refine k_iload_n hC (pc := 17) dX12_against_17 2 rfl ?_
    refine k_icmp_eq hC (pc := 18) 23 dX12_against_18 (by decide) (fun c_12 => ?_) (fun c_12 => ?_)
    · have h := h.1 c_12
      refine k_sub [(0, .ref (adr X.G a 6 0)), (1, .int x1), (3, .int x3), (4, .int x4)] [0, 1, 3, 4] rfl ?_
      exact b_X12_against_23 hC hR hQ hr _ _ _ _ h
    · have h := h.2 c_12
      refine k_iconst hC (pc := 21) (v := 2) dX12_against_21 ic_2 ?_
      exact k_iret hC (pc := 22) hQ hr dX12_against_22 h
theorem ct_X12_against {l : Launch} {G : Gx} {a : Ax} {s : Sx} {N : Nat} {post : Int32 → Sx → Prop} (x1 : Int32) (x2 : Int32) (x3 : Int32) (x4 : Int32) (h : w_X12_against N x1 x2 x3 x4 s post) : Met l yX12_against (Cond.code yX12_against cX12_against 5 (some .int) :: gw) { frames := 0, cells := 0, slots := 0, locals := 0 } (va_Pc [.ref (adr G a 6 0), .int x1, .int x2, .int x3, .int x4] (fun U => FU G a s U)) (Qi G a post) 0 0 (bs_ G) := met_of (plainFor_of_name (by decide)) (Nat.le_of_ble_eq_true rfl) rfl (fun X hC hl hR hQ hr hG hn => by subst hG; exact b_X12_against hC hR hQ hr hn s x1 x2 x3 x4 h)
theorem ca_X12_against : Ca yX12_against cX12_against 5 (some .int) 4 := ⟨cd_X12_against, ii_RX12, by decide, by decide, by decide +kernel⟩
def w_X12_isCamp (N : Nat) (x1 : Int32) (s : Sx) (post : Int32 → Sx → Prop) : Prop := (x1 < 0 → post 0 s) ∧ (¬ (x1 < 0) → ((s.1 6 0 5) ≤ x1 → post 0 s) ∧ (¬ ((s.1 6 0 5) ≤ x1) → post 1 s))
set_option maxHeartbeats 4000000 in
theorem b_X12_isCamp {X : Kx} {a : Ax} {N : Nat} {post : Int32 → Sx → Prop} (hC : Cx X cX12_isCamp 2 RX12) (hR : X.R = { frames := 0, cells := 0, slots := 0, locals := 0 }) (hQ : X.Q = MQ X.below (Qi X.G a post) X.av X.s 0 0 (bs_ X.G)) (hr : X.meth.sig.returnType = (some .boolean)) (hn : X.meth.name = "isCamp") (s : Sx) (x1 : Int32) (h : w_X12_isCamp N x1 s post) : wk X a s 2 0 [(0, .ref (adr X.G a 6 0)), (1, .int x1)] [] 0 0 := by
  unfold w_X12_isCamp at h
  refine k_iload_n hC (pc := 0) dX12_isCamp_0 1 rfl ?_
  refine k_if_lt hC (pc := 1) 16 dX12_isCamp_1 (by decide) (fun c_1 => ?_) (fun c_1 => ?_)
  · have h := h.1 c_1
    refine k_iconst hC (pc := 16) (v := 0) dX12_isCamp_16 ic_0 ?_
    exact k_zret hC (pc := 17) hQ hr dX12_isCamp_17 (Or.inl rfl) h
  · have h := h.2 c_1
    refine k_iload_n hC (pc := 4) dX12_isCamp_4 1 rfl ?_
    refine k_aload_n hC (pc := 5) dX12_isCamp_5 0 rfl ?_
    refine gf_X12_5 hC (pc := 6)  fl_RX12_190 dX12_isCamp_6 ?_
    refine k_icmp_ge hC (pc := 9) 16 dX12_isCamp_9 (by decide) (fun c_2 => ?_) (fun c_2 => ?_)
    · have h := h.1 c_2
      refine k_iconst hC (pc := 16) (v := 0) dX12_isCamp_16 ic_0 ?_
      exact k_zret hC (pc := 17) hQ hr dX12_isCamp_17 (Or.inl rfl) h
    · have h := h.2 c_2
      refine k_iconst hC (pc := 12) (v := 1) dX12_isCamp_12 ic_1 ?_
      refine k_goto hC (pc := 13) 17 dX12_isCamp_13 (by decide) ?_
      exact k_zret hC (pc := 17) hQ hr dX12_isCamp_17 (Or.inr rfl) h
theorem ct_X12_isCamp {l : Launch} {G : Gx} {a : Ax} {s : Sx} {N : Nat} {post : Int32 → Sx → Prop} (x1 : Int32) (h : w_X12_isCamp N x1 s post) : Met l yX12_isCamp (Cond.code yX12_isCamp cX12_isCamp 2 (some .boolean) :: gw) { frames := 0, cells := 0, slots := 0, locals := 0 } (va_Pc [.ref (adr G a 6 0), .int x1] (fun U => FU G a s U)) (Qi G a post) 0 0 (bs_ G) := met_of (plainFor_of_name (by decide)) (Nat.le_of_ble_eq_true rfl) rfl (fun X hC hl hR hQ hr hG hn => by subst hG; exact b_X12_isCamp hC hR hQ hr hn s x1 h)
theorem ca_X12_isCamp : Ca yX12_isCamp cX12_isCamp 2 (some .boolean) 1 := ⟨cd_X12_isCamp, ii_RX12, by decide, by decide, by decide +kernel⟩
def w_X12_isMan (N : Nat) (x1 : Int32) (s : Sx) (post : Int32 → Sx → Prop) : Prop := (x1 < 0 → post 0 s) ∧ (¬ (x1 < 0) → ((s.1 6 0 9) ≤ x1 → post 0 s) ∧ (¬ ((s.1 6 0 9) ≤ x1) → post 1 s))
set_option maxHeartbeats 4000000 in
theorem b_X12_isMan {X : Kx} {a : Ax} {N : Nat} {post : Int32 → Sx → Prop} (hC : Cx X cX12_isMan 2 RX12) (hR : X.R = { frames := 0, cells := 0, slots := 0, locals := 0 }) (hQ : X.Q = MQ X.below (Qi X.G a post) X.av X.s 0 0 (bs_ X.G)) (hr : X.meth.sig.returnType = (some .boolean)) (hn : X.meth.name = "isMan") (s : Sx) (x1 : Int32) (h : w_X12_isMan N x1 s post) : wk X a s 2 0 [(0, .ref (adr X.G a 6 0)), (1, .int x1)] [] 0 0 := by
  unfold w_X12_isMan at h
  refine k_iload_n hC (pc := 0) dX12_isMan_0 1 rfl ?_
  refine k_if_lt hC (pc := 1) 16 dX12_isMan_1 (by decide) (fun c_1 => ?_) (fun c_1 => ?_)
  · have h := h.1 c_1
    refine k_iconst hC (pc := 16) (v := 0) dX12_isMan_16 ic_0 ?_
    exact k_zret hC (pc := 17) hQ hr dX12_isMan_17 (Or.inl rfl) h
  · have h := h.2 c_1
    refine k_iload_n hC (pc := 4) dX12_isMan_4 1 rfl ?_
    refine k_aload_n hC (pc := 5) dX12_isMan_5 0 rfl ?_
    refine gf_X12_9 hC (pc := 6)  fl_RX12_193 dX12_isMan_6 ?_
    refine k_icmp_ge hC (pc := 9) 16 dX12_isMan_9 (by decide) (fun c_2 => ?_) (fun c_2 => ?_)
    · have h := h.1 c_2
      refine k_iconst hC (pc := 16) (v := 0) dX12_isMan_16 ic_0 ?_
      exact k_zret hC (pc := 17) hQ hr dX12_isMan_17 (Or.inl rfl) h
    · have h := h.2 c_2
      refine k_iconst hC (pc := 12) (v := 1) dX12_isMan_12 ic_1 ?_
      refine k_goto hC (pc := 13) 17 dX12_isMan_13 (by decide) ?_
      exact k_zret hC (pc := 17) hQ hr dX12_isMan_17 (Or.inr rfl) h
theorem ct_X12_isMan {l : Launch} {G : Gx} {a : Ax} {s : Sx} {N : Nat} {post : Int32 → Sx → Prop} (x1 : Int32) (h : w_X12_isMan N x1 s post) : Met l yX12_isMan (Cond.code yX12_isMan cX12_isMan 2 (some .boolean) :: gw) { frames := 0, cells := 0, slots := 0, locals := 0 } (va_Pc [.ref (adr G a 6 0), .int x1] (fun U => FU G a s U)) (Qi G a post) 0 0 (bs_ G) := met_of (plainFor_of_name (by decide)) (Nat.le_of_ble_eq_true rfl) rfl (fun X hC hl hR hQ hr hG hn => by subst hG; exact b_X12_isMan hC hR hQ hr hn s x1 h)
theorem ca_X12_isMan : Ca yX12_isMan cX12_isMan 2 (some .boolean) 1 := ⟨cd_X12_isMan, ii_RX12, by decide, by decide, by decide +kernel⟩
def w_X12_isPost (N : Nat) (x1 : Int32) (s : Sx) (post : Int32 → Sx → Prop) : Prop := (x1 < 0 → post 0 s) ∧ (¬ (x1 < 0) → ((s.1 6 0 10) ≤ x1 → post 0 s) ∧ (¬ ((s.1 6 0 10) ≤ x1) → post 1 s))
set_option maxHeartbeats 4000000 in
theorem b_X12_isPost {X : Kx} {a : Ax} {N : Nat} {post : Int32 → Sx → Prop} (hC : Cx X cX12_isPost 2 RX12) (hR : X.R = { frames := 0, cells := 0, slots := 0, locals := 0 }) (hQ : X.Q = MQ X.below (Qi X.G a post) X.av X.s 0 0 (bs_ X.G)) (hr : X.meth.sig.returnType = (some .boolean)) (hn : X.meth.name = "isPost") (s : Sx) (x1 : Int32) (h : w_X12_isPost N x1 s post) : wk X a s 2 0 [(0, .ref (adr X.G a 6 0)), (1, .int x1)] [] 0 0 := by
  unfold w_X12_isPost at h
  refine k_iload_n hC (pc := 0) dX12_isPost_0 1 rfl ?_
  refine k_if_lt hC (pc := 1) 16 dX12_isPost_1 (by decide) (fun c_1 => ?_) (fun c_1 => ?_)
  · have h := h.1 c_1
    refine k_iconst hC (pc := 16) (v := 0) dX12_isPost_16 ic_0 ?_
    exact k_zret hC (pc := 17) hQ hr dX12_isPost_17 (Or.inl rfl) h
  · have h := h.2 c_1
    refine k_iload_n hC (pc := 4) dX12_isPost_4 1 rfl ?_
    refine k_aload_n hC (pc := 5) dX12_isPost_5 0 rfl ?_
    refine gf_X12_10 hC (pc := 6)  fl_RX12_196 dX12_isPost_6 ?_
    refine k_icmp_ge hC (pc := 9) 16 dX12_isPost_9 (by decide) (fun c_2 => ?_) (fun c_2 => ?_)
    · have h := h.1 c_2
      refine k_iconst hC (pc := 16) (v := 0) dX12_isPost_16 ic_0 ?_
      exact k_zret hC (pc := 17) hQ hr dX12_isPost_17 (Or.inl rfl) h
    · have h := h.2 c_2
      refine k_iconst hC (pc := 12) (v := 1) dX12_isPost_12 ic_1 ?_
      refine k_goto hC (pc := 13) 17 dX12_isPost_13 (by decide) ?_
      exact k_zret hC (pc := 17) hQ hr dX12_isPost_17 (Or.inr rfl) h
theorem ct_X12_isPost {l : Launch} {G : Gx} {a : Ax} {s : Sx} {N : Nat} {post : Int32 → Sx → Prop} (x1 : Int32) (h : w_X12_isPost N x1 s post) : Met l yX12_isPost (Cond.code yX12_isPost cX12_isPost 2 (some .boolean) :: gw) { frames := 0, cells := 0, slots := 0, locals := 0 } (va_Pc [.ref (adr G a 6 0), .int x1] (fun U => FU G a s U)) (Qi G a post) 0 0 (bs_ G) := met_of (plainFor_of_name (by decide)) (Nat.le_of_ble_eq_true rfl) rfl (fun X hC hl hR hQ hr hG hn => by subst hG; exact b_X12_isPost hC hR hQ hr hn s x1 h)
theorem ca_X12_isPost : Ca yX12_isPost cX12_isPost 2 (some .boolean) 1 := ⟨cd_X12_isPost, ii_RX12, by decide, by decide, by decide +kernel⟩
def w_X12_isSpot (N : Nat) (x0 : Int32) (x1 : Int32) (s : Sx) (post : Int32 → Sx → Prop) : Prop := w_X12_within N x0 0 40 s (fun r_2 s_1 => (r_2 = 0 → post 0 s_1) ∧ (¬ (r_2 = 0) → w_X12_within N x1 0 40 s_1 (fun r_5 s_4 => (r_5 = 0 → post 0 s_4) ∧ (¬ (r_5 = 0) → post 1 s_4))))
set_option maxHeartbeats 4000000 in
theorem b_X12_isSpot {X : Kx} {a : Ax} {N : Nat} {post : Int32 → Sx → Prop} (hC : Cx X cX12_isSpot 2 RX12) (hR : X.R = { frames := 1, cells := 0, slots := 0, locals := 22 }) (hQ : X.Q = MQ X.below (Qi X.G a post) X.av X.s 0 0 (bs_ X.G)) (hr : X.meth.sig.returnType = (some .boolean)) (hn : X.meth.name = "isSpot") (s : Sx) (x0 : Int32) (x1 : Int32) (h : w_X12_isSpot N x0 x1 s post) : wk X a s 2 0 [(0, .int x0), (1, .int x1)] [] 0 0 := by
  unfold w_X12_isSpot at h
  refine k_iload_n hC (pc := 0) dX12_isSpot_0 0 rfl ?_
  refine k_iconst hC (pc := 1) (v := 0) dX12_isSpot_1 ic_0 ?_
  refine k_bipush hC (pc := 2) (v := 40) dX12_isSpot_2 bp_40 ?_
  refine k_ci (rn_S hC (pc := 4) (As := [.int x0, .int 0, .int 40]) (rest := []) ca_X12_within ml_RX12_186 sm_X12_within (ct_X12_within x0 0 40 h) (by rw [hR]; exact ⟨rfl, rfl, by decide, by decide⟩) rfl (Nat.le_of_ble_eq_true rfl) dX12_isSpot_4 ⟨by rw [hR]; decide, by rw [hR]; decide⟩) (fun r_2 s_1 h => ?_)
  refine k_if_eq hC (pc := 7) 24 dX12_isSpot_7 (by decide) (fun c_3 => ?_) (fun c_3 => ?_)
  · have h := h.1 c_3
    refine k_iconst hC (pc := 24) (v := 0) dX12_isSpot_24 ic_0 ?_
    exact k_zret hC (pc := 25) hQ hr dX12_isSpot_25 (Or.inl rfl) h
  · have h := h.2 c_3
    refine k_iload_n hC (pc := 10) dX12_isSpot_10 1 rfl ?_
    refine k_iconst hC (pc := 11) (v := 0) dX12_isSpot_11 ic_0 ?_
    refine k_bipush hC (pc := 12) (v := 40) dX12_isSpot_12 bp_40 ?_
    refine k_ci (rn_S hC (pc := 14) (As := [.int x1, .int 0, .int 40]) (rest := []) ca_X12_within ml_RX12_186 sm_X12_within (ct_X12_within x1 0 40 h) (by rw [hR]; exact ⟨rfl, rfl, by decide, by decide⟩) rfl (Nat.le_of_ble_eq_true rfl) dX12_isSpot_14 ⟨by rw [hR]; decide, by rw [hR]; decide⟩) (fun r_5 s_4 h => ?_)
    refine k_if_eq hC (pc := 17) 24 dX12_isSpot_17 (by decide) (fun c_6 => ?_) (fun c_6 => ?_)
    · have h := h.1 c_6
      refine k_iconst hC (pc := 24) (v := 0) dX12_isSpot_24 ic_0 ?_
      exact k_zret hC (pc := 25) hQ hr dX12_isSpot_25 (Or.inl rfl) h
    · have h := h.2 c_6
      refine k_iconst hC (pc := 20) (v := 1) dX12_isSpot_20 ic_1 ?_
      refine k_goto hC (pc := 21) 25 dX12_isSpot_21 (by decide) ?_
      exact k_zret hC (pc := 25) hQ hr dX12_isSpot_25 (Or.inr rfl) h
theorem ct_X12_isSpot {l : Launch} {G : Gx} {a : Ax} {s : Sx} {N : Nat} {post : Int32 → Sx → Prop} (x0 : Int32) (x1 : Int32) (h : w_X12_isSpot N x0 x1 s post) : Met l yX12_isSpot (Cond.code yX12_isSpot cX12_isSpot 2 (some .boolean) :: gw) { frames := 1, cells := 0, slots := 0, locals := 22 } (va_Pc [.int x0, .int x1] (fun U => FU G a s U)) (Qi G a post) 0 0 (bs_ G) := met_of (plainFor_of_name (by decide)) (Nat.le_of_ble_eq_true rfl) rfl (fun X hC hl hR hQ hr hG hn => by subst hG; exact b_X12_isSpot hC hR hQ hr hn s x0 x1 h)
theorem ca_X12_isSpot : Ca yX12_isSpot cX12_isSpot 2 (some .boolean) 2 := ⟨cd_X12_isSpot, ii_RX12, by decide, by decide, by decide +kernel⟩
def w_X12_camp (N : Nat) (x1 : Int32) (x2 : Int32) (x3 : Int32) (s : Sx) (post : Int32 → Sx → Prop) : Prop := w_X12_isSpot N x1 x2 s (fun r_2 s_1 => (r_2 = 0 → post ((-2)) s_1) ∧ (¬ (r_2 = 0) → w_X12_within N x3 1 9 s_1 (fun r_5 s_4 => (¬ r_5 = 0 → (¬ (s_4.1 6 0 5) = 7 → vp_in (s_4.1 6 0 5) 7 ∧ ∀ s_9, s_9 = setI s_4 5 6 (s_4.1 6 0 5).toNatClampNeg x1 → vp_in (s_9.1 6 0 5) 7 ∧ ∀ s_11, s_11 = setI s_9 5 7 (s_9.1 6 0 5).toNatClampNeg x2 → vp_in (s_11.1 6 0 5) 7 ∧ ∀ s_13, s_13 = setI s_11 5 8 (s_11.1 6 0 5).toNatClampNeg x3 → vp_in (s_13.1 6 0 5) 7 ∧ ∀ s_15, s_15 = setI s_13 5 60 (s_13.1 6 0 5).toNatClampNeg 0 → ∀ s_16, s_16 = setI s_15 6 0 5 ((s_15.1 6 0 5) + 1) → post ((s_16.1 6 0 5) - 1) s_16) ∧ (¬ (¬ (s_4.1 6 0 5) = 7) → post ((-4)) s_4)) ∧ (¬ (¬ r_5 = 0) → post ((-2)) s_4))))
set_option maxHeartbeats 4000000 in
theorem b_X12_camp {X : Kx} {a : Ax} {N : Nat} {post : Int32 → Sx → Prop} (hC : Cx X cX12_camp 4 RX12) (hR : X.R = { frames := 2, cells := 0, slots := 0, locals := 43 }) (hQ : X.Q = MQ X.below (Qi X.G a post) X.av X.s 0 0 (bs_ X.G)) (hr : X.meth.sig.returnType = (some .int)) (hn : X.meth.name = "camp") (s : Sx) (x1 : Int32) (x2 : Int32) (x3 : Int32) (h : w_X12_camp N x1 x2 x3 s post) : wk X a s 4 0 [(0, .ref (adr X.G a 6 0)), (1, .int x1), (2, .int x2), (3, .int x3)] [] 0 0 := by
  unfold w_X12_camp at h
  refine k_iload_n hC (pc := 0) dX12_camp_0 1 rfl ?_
  refine k_iload_n hC (pc := 1) dX12_camp_1 2 rfl ?_
  refine k_ci (rn_S hC (pc := 2) (As := [.int x1, .int x2]) (rest := []) ca_X12_isSpot ml_RX12_199 sm_X12_isSpot (ct_X12_isSpot x1 x2 h) (by rw [hR]; exact ⟨rfl, rfl, by decide, by decide⟩) rfl (Nat.le_of_ble_eq_true rfl) dX12_camp_2 ⟨by rw [hR]; decide, by rw [hR]; decide⟩) (fun r_2 s_1 h => ?_)
  refine k_if_eq hC (pc := 5) 18 dX12_camp_5 (by decide) (fun c_3 => ?_) (fun c_3 => ?_)
  · have h := h.1 c_3
    refine k_bipush hC (pc := 18) (v := (-2)) dX12_camp_18 bp_m2 ?_
    exact k_iret hC (pc := 20) hQ hr dX12_camp_20 h
  · have h := h.2 c_3
    refine k_iload_n hC (pc := 8) dX12_camp_8 3 rfl ?_
    refine k_iconst hC (pc := 9) (v := 1) dX12_camp_9 ic_1 ?_
    refine k_bipush hC (pc := 10) (v := 9) dX12_camp_10 bp_9 ?_
    refine k_ci (rn_S hC (pc := 12) (As := [.int x3, .int 1, .int 9]) (rest := []) ca_X12_within ml_RX12_186 sm_X12_within (ct_X12_within x3 1 9 h) (by rw [hR]; exact ⟨rfl, rfl, by decide, by decide⟩) rfl (Nat.le_of_ble_eq_true rfl) dX12_camp_12 ⟨by rw [hR]; decide, by rw [hR]; decide⟩) (fun r_5 s_4 h => ?_)
    refine k_if_ne hC (pc := 15) 21 dX12_camp_15 (by decide) (fun c_6 => ?_) (fun c_6 => ?_)
    · have h := h.1 c_6
      refine k_aload_n hC (pc := 21) dX12_camp_21 0 rfl ?_
      refine gf_X12_5 hC (pc := 22)  fl_RX12_190 dX12_camp_22 ?_
      refine k_bipush hC (pc := 25) (v := 7) dX12_camp_25 bp_7 ?_
      refine k_icmp_ne hC (pc := 27) 33 dX12_camp_27 (by decide) (fun c_7 => ?_) (fun c_7 => ?_)
      · have h := h.1 c_7
        refine k_aload_n hC (pc := 33) dX12_camp_33 0 rfl ?_
        refine gf_X12_6 hC (pc := 34)  fl_RX12_19 dX12_camp_34 ?_
        refine k_aload_n hC (pc := 37) dX12_camp_37 0 rfl ?_
        refine gf_X12_5 hC (pc := 38)  fl_RX12_190 dX12_camp_38 ?_
        refine k_iload_n hC (pc := 41) dX12_camp_41 1 rfl ?_
        obtain ⟨c_8, h⟩ := h
        refine r_iast hC (pc := 42) ra5_6 c_8 dX12_camp_42 (fun s_9 h_s_9 => ?_)
        have h := h s_9 h_s_9
        refine k_aload_n hC (pc := 43) dX12_camp_43 0 rfl ?_
        refine gf_X12_7 hC (pc := 44)  fl_RX12_22 dX12_camp_44 ?_
        refine k_aload_n hC (pc := 47) dX12_camp_47 0 rfl ?_
        refine gf_X12_5 hC (pc := 48)  fl_RX12_190 dX12_camp_48 ?_
        refine k_iload_n hC (pc := 51) dX12_camp_51 2 rfl ?_
        obtain ⟨c_10, h⟩ := h
        refine r_iast hC (pc := 52) ra5_7 c_10 dX12_camp_52 (fun s_11 h_s_11 => ?_)
        have h := h s_11 h_s_11
        refine k_aload_n hC (pc := 53) dX12_camp_53 0 rfl ?_
        refine gf_X12_8 hC (pc := 54)  fl_RX12_25 dX12_camp_54 ?_
        refine k_aload_n hC (pc := 57) dX12_camp_57 0 rfl ?_
        refine gf_X12_5 hC (pc := 58)  fl_RX12_190 dX12_camp_58 ?_
        refine k_iload_n hC (pc := 61) dX12_camp_61 3 rfl ?_
        obtain ⟨c_12, h⟩ := h
        refine r_iast hC (pc := 62) ra5_8 c_12 dX12_camp_62 (fun s_13 h_s_13 => ?_)
        have h := h s_13 h_s_13
        refine k_aload_n hC (pc := 63) dX12_camp_63 0 rfl ?_
        refine gf_X12_60 hC (pc := 64)  fl_RX12_149 dX12_camp_64 ?_
        refine k_aload_n hC (pc := 67) dX12_camp_67 0 rfl ?_
        refine gf_X12_5 hC (pc := 68)  fl_RX12_190 dX12_camp_68 ?_
        refine k_iconst hC (pc := 71) (v := 0) dX12_camp_71 ic_0 ?_
        obtain ⟨c_14, h⟩ := h
        refine r_iast hC (pc := 72) ra5_60 c_14 dX12_camp_72 (fun s_15 h_s_15 => ?_)
        have h := h s_15 h_s_15
        refine k_aload_n hC (pc := 73) dX12_camp_73 0 rfl ?_
        refine k_dup hC (pc := 74) dX12_camp_74 rfl ?_
        refine gf_X12_5 hC (pc := 75)  fl_RX12_190 dX12_camp_75 ?_
        refine k_iconst hC (pc := 78) (v := 1) dX12_camp_78 ic_1 ?_
        refine k_iadd hC (pc := 79) dX12_camp_79 ?_
        refine pf_X12_5 hC (pc := 80)  fl_RX12_190 dX12_camp_80 (fun s_16 h_s_16 => ?_)
        have h := h s_16 h_s_16
        refine k_aload_n hC (pc := 83) dX12_camp_83 0 rfl ?_
        refine gf_X12_5 hC (pc := 84)  fl_RX12_190 dX12_camp_84 ?_
        refine k_iconst hC (pc := 87) (v := 1) dX12_camp_87 ic_1 ?_
        refine k_isub hC (pc := 88) dX12_camp_88 ?_
        exact k_iret hC (pc := 89) hQ hr dX12_camp_89 h
      · have h := h.2 c_7
        refine k_bipush hC (pc := 30) (v := (-4)) dX12_camp_30 bp_m4 ?_
        exact k_iret hC (pc := 32) hQ hr dX12_camp_32 h
    · have h := h.2 c_6
      refine k_bipush hC (pc := 18) (v := (-2)) dX12_camp_18 bp_m2 ?_
      exact k_iret hC (pc := 20) hQ hr dX12_camp_20 h
theorem ct_X12_camp {l : Launch} {G : Gx} {a : Ax} {s : Sx} {N : Nat} {post : Int32 → Sx → Prop} (x1 : Int32) (x2 : Int32) (x3 : Int32) (h : w_X12_camp N x1 x2 x3 s post) : Met l yX12_camp (Cond.code yX12_camp cX12_camp 4 (some .int) :: gw) { frames := 2, cells := 0, slots := 0, locals := 43 } (va_Pc [.ref (adr G a 6 0), .int x1, .int x2, .int x3] (fun U => FU G a s U)) (Qi G a post) 0 0 (bs_ G) := met_of (plainFor_of_name (by decide)) (Nat.le_of_ble_eq_true rfl) rfl (fun X hC hl hR hQ hr hG hn => by subst hG; exact b_X12_camp hC hR hQ hr hn s x1 x2 x3 h)
theorem ca_X12_camp : Ca yX12_camp cX12_camp 4 (some .int) 3 := ⟨cd_X12_camp, ii_RX12, by decide, by decide, by decide +kernel⟩
def w_X12_man (N : Nat) (s : Sx) (post : Int32 → Sx → Prop) : Prop := (¬ (s.1 6 0 9) = 20 → ∀ s_2, s_2 = setI s 6 0 9 ((s.1 6 0 9) + 1) → post ((s_2.1 6 0 9) - 1) s_2) ∧ (¬ (¬ (s.1 6 0 9) = 20) → post ((-4)) s)
set_option maxHeartbeats 4000000 in
theorem b_X12_man {X : Kx} {a : Ax} {N : Nat} {post : Int32 → Sx → Prop} (hC : Cx X cX12_man 1 RX12) (hR : X.R = { frames := 0, cells := 0, slots := 0, locals := 0 }) (hQ : X.Q = MQ X.below (Qi X.G a post) X.av X.s 0 0 (bs_ X.G)) (hr : X.meth.sig.returnType = (some .int)) (hn : X.meth.name = "man") (s : Sx) (h : w_X12_man N s post) : wk X a s 1 0 [(0, .ref (adr X.G a 6 0))] [] 0 0 := by
  unfold w_X12_man at h
  refine k_aload_n hC (pc := 0) dX12_man_0 0 rfl ?_
  refine gf_X12_9 hC (pc := 1)  fl_RX12_193 dX12_man_1 ?_
  refine k_bipush hC (pc := 4) (v := 20) dX12_man_4 bp_20 ?_
  refine k_icmp_ne hC (pc := 6) 12 dX12_man_6 (by decide) (fun c_1 => ?_) (fun c_1 => ?_)
  · have h := h.1 c_1
    refine k_aload_n hC (pc := 12) dX12_man_12 0 rfl ?_
    refine k_dup hC (pc := 13) dX12_man_13 rfl ?_
    refine gf_X12_9 hC (pc := 14)  fl_RX12_193 dX12_man_14 ?_
    refine k_iconst hC (pc := 17) (v := 1) dX12_man_17 ic_1 ?_
    refine k_iadd hC (pc := 18) dX12_man_18 ?_
    refine pf_X12_9 hC (pc := 19)  fl_RX12_193 dX12_man_19 (fun s_2 h_s_2 => ?_)
    have h := h s_2 h_s_2
    refine k_aload_n hC (pc := 22) dX12_man_22 0 rfl ?_
    refine gf_X12_9 hC (pc := 23)  fl_RX12_193 dX12_man_23 ?_
    refine k_iconst hC (pc := 26) (v := 1) dX12_man_26 ic_1 ?_
    refine k_isub hC (pc := 27) dX12_man_27 ?_
    exact k_iret hC (pc := 28) hQ hr dX12_man_28 h
  · have h := h.2 c_1
    refine k_bipush hC (pc := 9) (v := (-4)) dX12_man_9 bp_m4 ?_
    exact k_iret hC (pc := 11) hQ hr dX12_man_11 h
theorem ct_X12_man {l : Launch} {G : Gx} {a : Ax} {s : Sx} {N : Nat} {post : Int32 → Sx → Prop} (h : w_X12_man N s post) : Met l yX12_man (Cond.code yX12_man cX12_man 1 (some .int) :: gw) { frames := 0, cells := 0, slots := 0, locals := 0 } (va_Pc [.ref (adr G a 6 0)] (fun U => FU G a s U)) (Qi G a post) 0 0 (bs_ G) := met_of (plainFor_of_name (by decide)) (Nat.le_of_ble_eq_true rfl) rfl (fun X hC hl hR hQ hr hG hn => by subst hG; exact b_X12_man hC hR hQ hr hn s h)
theorem ca_X12_man : Ca yX12_man cX12_man 1 (some .int) 0 := ⟨cd_X12_man, ii_RX12, by decide, by decide, by decide +kernel⟩
def w_X12_areDays (N : Nat) (x0 : Int32) (x1 : Int32) (s : Sx) (post : Int32 → Sx → Prop) : Prop := w_X12_isDay N x0 s (fun r_2 s_1 => (r_2 = 0 → post 0 s_1) ∧ (¬ (r_2 = 0) → w_X12_isDay N x1 s_1 (fun r_5 s_4 => (r_5 = 0 → post 0 s_4) ∧ (¬ (r_5 = 0) → (x1 < x0 → post 0 s_4) ∧ (¬ (x1 < x0) → post 1 s_4)))))
set_option maxHeartbeats 4000000 in
theorem b_X12_areDays {X : Kx} {a : Ax} {N : Nat} {post : Int32 → Sx → Prop} (hC : Cx X cX12_areDays 2 RX12) (hR : X.R = { frames := 2, cells := 0, slots := 0, locals := 42 }) (hQ : X.Q = MQ X.below (Qi X.G a post) X.av X.s 0 0 (bs_ X.G)) (hr : X.meth.sig.returnType = (some .boolean)) (hn : X.meth.name = "areDays") (s : Sx) (x0 : Int32) (x1 : Int32) (h : w_X12_areDays N x0 x1 s post) : wk X a s 2 0 [(0, .int x0), (1, .int x1)] [] 0 0 := by
  unfold w_X12_areDays at h
  refine k_iload_n hC (pc := 0) dX12_areDays_0 0 rfl ?_
  refine k_ci (rn_S hC (pc := 1) (As := [.int x0]) (rest := []) ca_X12_isDay ml_RX12_203 sm_X12_isDay (ct_X12_isDay x0 h) (by rw [hR]; exact ⟨rfl, rfl, by decide, by decide⟩) rfl (Nat.le_of_ble_eq_true rfl) dX12_areDays_1 ⟨by rw [hR]; decide, by rw [hR]; decide⟩) (fun r_2 s_1 h => ?_)
  refine k_if_eq hC (pc := 4) 23 dX12_areDays_4 (by decide) (fun c_3 => ?_) (fun c_3 => ?_)
  · have h := h.1 c_3
    refine k_iconst hC (pc := 23) (v := 0) dX12_areDays_23 ic_0 ?_
    exact k_zret hC (pc := 24) hQ hr dX12_areDays_24 (Or.inl rfl) h
  · have h := h.2 c_3
    refine k_iload_n hC (pc := 7) dX12_areDays_7 1 rfl ?_
    refine k_ci (rn_S hC (pc := 8) (As := [.int x1]) (rest := []) ca_X12_isDay ml_RX12_203 sm_X12_isDay (ct_X12_isDay x1 h) (by rw [hR]; exact ⟨rfl, rfl, by decide, by decide⟩) rfl (Nat.le_of_ble_eq_true rfl) dX12_areDays_8 ⟨by rw [hR]; decide, by rw [hR]; decide⟩) (fun r_5 s_4 h => ?_)
    refine k_if_eq hC (pc := 11) 23 dX12_areDays_11 (by decide) (fun c_6 => ?_) (fun c_6 => ?_)
    · have h := h.1 c_6
      refine k_iconst hC (pc := 23) (v := 0) dX12_areDays_23 ic_0 ?_
      exact k_zret hC (pc := 24) hQ hr dX12_areDays_24 (Or.inl rfl) h
    · have h := h.2 c_6
      refine k_iload_n hC (pc := 14) dX12_areDays_14 0 rfl ?_
      refine k_iload_n hC (pc := 15) dX12_areDays_15 1 rfl ?_
      refine k_icmp_gt hC (pc := 16) 23 dX12_areDays_16 (by decide) (fun c_7 => ?_) (fun c_7 => ?_)
      · have h := h.1 c_7
        refine k_iconst hC (pc := 23) (v := 0) dX12_areDays_23 ic_0 ?_
        exact k_zret hC (pc := 24) hQ hr dX12_areDays_24 (Or.inl rfl) h
      · have h := h.2 c_7
        refine k_iconst hC (pc := 19) (v := 1) dX12_areDays_19 ic_1 ?_
        refine k_goto hC (pc := 20) 24 dX12_areDays_20 (by decide) ?_
        exact k_zret hC (pc := 24) hQ hr dX12_areDays_24 (Or.inr rfl) h
theorem ct_X12_areDays {l : Launch} {G : Gx} {a : Ax} {s : Sx} {N : Nat} {post : Int32 → Sx → Prop} (x0 : Int32) (x1 : Int32) (h : w_X12_areDays N x0 x1 s post) : Met l yX12_areDays (Cond.code yX12_areDays cX12_areDays 2 (some .boolean) :: gw) { frames := 2, cells := 0, slots := 0, locals := 42 } (va_Pc [.int x0, .int x1] (fun U => FU G a s U)) (Qi G a post) 0 0 (bs_ G) := met_of (plainFor_of_name (by decide)) (Nat.le_of_ble_eq_true rfl) rfl (fun X hC hl hR hQ hr hG hn => by subst hG; exact b_X12_areDays hC hR hQ hr hn s x0 x1 h)
theorem ca_X12_areDays : Ca yX12_areDays cX12_areDays 2 (some .boolean) 2 := ⟨cd_X12_areDays, ii_RX12, by decide, by decide, by decide +kernel⟩
def w_X12_post_43 (N : Nat) (post : Int32 → Sx → Prop) : Nat → Sx → Int32 → Int32 → Int32 → Int32 → Int32 → Int32 → Prop
  | 0, _, _, _, _, _, _, _ => False
  | n + 1, s, x1, x2, x3, x4, x5, x6 => ((s.1 6 0 10) ≤ x6 → (¬ (s.1 6 0 10) = 30 → vp_in (s.1 6 0 10) 30 ∧ ∀ s_16, s_16 = setI s 5 11 (s.1 6 0 10).toNatClampNeg x1 → vp_in (s_16.1 6 0 10) 30 ∧ ∀ s_18, s_18 = setI s_16 5 12 (s_16.1 6 0 10).toNatClampNeg x2 → vp_in (s_18.1 6 0 10) 30 ∧ ∀ s_20, s_20 = setI s_18 5 13 (s_18.1 6 0 10).toNatClampNeg x3 → vp_in (s_20.1 6 0 10) 30 ∧ ∀ s_22, s_22 = setI s_20 5 14 (s_20.1 6 0 10).toNatClampNeg x4 → vp_in (s_22.1 6 0 10) 30 ∧ ∀ s_24, s_24 = setI s_22 5 15 (s_22.1 6 0 10).toNatClampNeg x5 → ∀ s_25, s_25 = setI s_24 6 0 10 ((s_24.1 6 0 10) + 1) → post ((s_25.1 6 0 10) - 1) s_25) ∧ (¬ (¬ (s.1 6 0 10) = 30) → post ((-4)) s)) ∧ (¬ ((s.1 6 0 10) ≤ x6) → vp_in x6 30 ∧ (¬ (s.1 5 12 x6.toNatClampNeg) = x2 → ∀ x_28 : Int32, x_28 = x6 + 1 → w_X12_post_43 N post n s x1 x2 x3 x4 x5 x_28) ∧ (¬ (¬ (s.1 5 12 x6.toNatClampNeg) = x2) → vp_in x6 30 ∧ (x5 < (s.1 5 14 x6.toNatClampNeg) → ∀ x_31 : Int32, x_31 = x6 + 1 → w_X12_post_43 N post n s x1 x2 x3 x4 x5 x_31) ∧ (¬ (x5 < (s.1 5 14 x6.toNatClampNeg)) → vp_in x6 30 ∧ ((s.1 5 15 x6.toNatClampNeg) < x4 → ∀ x_34 : Int32, x_34 = x6 + 1 → w_X12_post_43 N post n s x1 x2 x3 x4 x5 x_34) ∧ (¬ ((s.1 5 15 x6.toNatClampNeg) < x4) → post ((-3)) s))))
def w_X12_post (N : Nat) (x1 : Int32) (x2 : Int32) (x3 : Int32) (x4 : Int32) (x5 : Int32) (s : Sx) (post : Int32 → Sx → Prop) : Prop := w_X12_isMan N x2 s (fun r_2 s_1 => (r_2 = 0 → post ((-1)) s_1) ∧ (¬ (r_2 = 0) → w_X12_isCamp N x3 s_1 (fun r_5 s_4 => (¬ r_5 = 0 → w_X12_within N x1 0 2 s_4 (fun r_8 s_7 => (r_8 = 0 → post ((-2)) s_7) ∧ (¬ (r_8 = 0) → w_X12_areDays N x4 x5 s_7 (fun r_11 s_10 => (¬ r_11 = 0 → w_X12_post_43 N post N s_10 x1 x2 x3 x4 x5 0) ∧ (¬ (¬ r_11 = 0) → post ((-2)) s_10))))) ∧ (¬ (¬ r_5 = 0) → post ((-1)) s_4))))
set_option maxHeartbeats 4000000 in
theorem b_X12_post_43 {X : Kx} {a : Ax} {N : Nat} {post : Int32 → Sx → Prop}  (hC : Cx X cX12_post 7 RX12) (hR : X.R = { frames := 3, cells := 0, slots := 0, locals := 63 }) (hQ : X.Q = MQ X.below (Qi X.G a post) X.av X.s 0 0 (bs_ X.G)) (hr : X.meth.sig.returnType = (some .int))   : ∀ (n : Nat) (s : Sx) (x1 : Int32) (x2 : Int32) (x3 : Int32) (x4 : Int32) (x5 : Int32) (x6 : Int32), w_X12_post_43 N post  n s x1 x2 x3 x4 x5 x6 → wk X a s 7 43 [(0, .ref (adr X.G a 6 0)), (1, .int x1), (2, .int x2), (3, .int x3), (4, .int x4), (5, .int x5), (6, .int x6)] [] 0 0 := by
  intro n
  induction n with
  | zero => intro s x1 x2 x3 x4 x5 x6 h; exact h.elim
  | succ n ih =>
    intro s x1 x2 x3 x4 x5 x6 h
    unfold w_X12_post_43 at h
    refine k_iload hC (pc := 43) dX12_post_43 6 rfl ?_
    refine k_aload_n hC (pc := 45) dX12_post_45 0 rfl ?_
    refine gf_X12_10 hC (pc := 46)  fl_RX12_196 dX12_post_46 ?_
    refine k_icmp_ge hC (pc := 49) 96 dX12_post_49 (by decide) (fun c_13 => ?_) (fun c_13 => ?_)
    · have h := h.1 c_13
      refine k_aload_n hC (pc := 96) dX12_post_96 0 rfl ?_
      refine gf_X12_10 hC (pc := 97)  fl_RX12_196 dX12_post_97 ?_
      refine k_bipush hC (pc := 100) (v := 30) dX12_post_100 bp_30 ?_
      refine k_icmp_ne hC (pc := 102) 108 dX12_post_102 (by decide) (fun c_14 => ?_) (fun c_14 => ?_)
      · have h := h.1 c_14
        refine k_aload_n hC (pc := 108) dX12_post_108 0 rfl ?_
        refine gf_X12_11 hC (pc := 109)  fl_RX12_28 dX12_post_109 ?_
        refine k_aload_n hC (pc := 112) dX12_post_112 0 rfl ?_
        refine gf_X12_10 hC (pc := 113)  fl_RX12_196 dX12_post_113 ?_
        refine k_iload_n hC (pc := 116) dX12_post_116 1 rfl ?_
        obtain ⟨c_15, h⟩ := h
        refine r_iast hC (pc := 117) ra5_11 c_15 dX12_post_117 (fun s_16 h_s_16 => ?_)
        have h := h s_16 h_s_16
        refine k_aload_n hC (pc := 118) dX12_post_118 0 rfl ?_
        refine gf_X12_12 hC (pc := 119)  fl_RX12_31 dX12_post_119 ?_
        refine k_aload_n hC (pc := 122) dX12_post_122 0 rfl ?_
        refine gf_X12_10 hC (pc := 123)  fl_RX12_196 dX12_post_123 ?_
        refine k_iload_n hC (pc := 126) dX12_post_126 2 rfl ?_
        obtain ⟨c_17, h⟩ := h
        refine r_iast hC (pc := 127) ra5_12 c_17 dX12_post_127 (fun s_18 h_s_18 => ?_)
        have h := h s_18 h_s_18
        refine k_aload_n hC (pc := 128) dX12_post_128 0 rfl ?_
        refine gf_X12_13 hC (pc := 129)  fl_RX12_34 dX12_post_129 ?_
        refine k_aload_n hC (pc := 132) dX12_post_132 0 rfl ?_
        refine gf_X12_10 hC (pc := 133)  fl_RX12_196 dX12_post_133 ?_
        refine k_iload_n hC (pc := 136) dX12_post_136 3 rfl ?_
        obtain ⟨c_19, h⟩ := h
        refine r_iast hC (pc := 137) ra5_13 c_19 dX12_post_137 (fun s_20 h_s_20 => ?_)
        have h := h s_20 h_s_20
        refine k_aload_n hC (pc := 138) dX12_post_138 0 rfl ?_
        refine gf_X12_14 hC (pc := 139)  fl_RX12_37 dX12_post_139 ?_
        refine k_aload_n hC (pc := 142) dX12_post_142 0 rfl ?_
        refine gf_X12_10 hC (pc := 143)  fl_RX12_196 dX12_post_143 ?_
        refine k_iload hC (pc := 146) dX12_post_146 4 rfl ?_
        obtain ⟨c_21, h⟩ := h
        refine r_iast hC (pc := 148) ra5_14 c_21 dX12_post_148 (fun s_22 h_s_22 => ?_)
        have h := h s_22 h_s_22
        refine k_aload_n hC (pc := 149) dX12_post_149 0 rfl ?_
        refine gf_X12_15 hC (pc := 150)  fl_RX12_40 dX12_post_150 ?_
        refine k_aload_n hC (pc := 153) dX12_post_153 0 rfl ?_
        refine gf_X12_10 hC (pc := 154)  fl_RX12_196 dX12_post_154 ?_
        refine k_iload hC (pc := 157) dX12_post_157 5 rfl ?_
        obtain ⟨c_23, h⟩ := h
        refine r_iast hC (pc := 159) ra5_15 c_23 dX12_post_159 (fun s_24 h_s_24 => ?_)
        have h := h s_24 h_s_24
        refine k_aload_n hC (pc := 160) dX12_post_160 0 rfl ?_
        refine k_dup hC (pc := 161) dX12_post_161 rfl ?_
        refine gf_X12_10 hC (pc := 162)  fl_RX12_196 dX12_post_162 ?_
        refine k_iconst hC (pc := 165) (v := 1) dX12_post_165 ic_1 ?_
        refine k_iadd hC (pc := 166) dX12_post_166 ?_
        refine pf_X12_10 hC (pc := 167)  fl_RX12_196 dX12_post_167 (fun s_25 h_s_25 => ?_)
        have h := h s_25 h_s_25
        refine k_aload_n hC (pc := 170) dX12_post_170 0 rfl ?_
        refine gf_X12_10 hC (pc := 171)  fl_RX12_196 dX12_post_171 ?_
        refine k_iconst hC (pc := 174) (v := 1) dX12_post_174 ic_1 ?_
        refine k_isub hC (pc := 175) dX12_post_175 ?_
        exact k_iret hC (pc := 176) hQ hr dX12_post_176 h
      · have h := h.2 c_14
        refine k_bipush hC (pc := 105) (v := (-4)) dX12_post_105 bp_m4 ?_
        exact k_iret hC (pc := 107) hQ hr dX12_post_107 h
    · have h := h.2 c_13
      refine k_aload_n hC (pc := 52) dX12_post_52 0 rfl ?_
      refine gf_X12_12 hC (pc := 53)  fl_RX12_31 dX12_post_53 ?_
      refine k_iload hC (pc := 56) dX12_post_56 6 rfl ?_
      obtain ⟨c_26, h⟩ := h
      refine r_iald hC (pc := 58) ra5_12 c_26 dX12_post_58 ?_
      refine k_iload_n hC (pc := 59) dX12_post_59 2 rfl ?_
      refine k_icmp_ne hC (pc := 60) 90 dX12_post_60 (by decide) (fun c_27 => ?_) (fun c_27 => ?_)
      · have h := h.1 c_27
        obtain ⟨x_28, h_x_28⟩ : ∃ z : Int32, z = x6 + 1 := ⟨_, rfl⟩
        have h := h x_28 h_x_28
        refine k_iincw hC (pc := 90) dX12_post_90 6 rfl ic_1 h_x_28.symm [(6, .int x_28), (0, .ref (adr X.G a 6 0)), (1, .int x1), (2, .int x2), (3, .int x3), (4, .int x4), (5, .int x5)] (by decide) rfl ?_
        refine k_goto hC (pc := 93) 43 dX12_post_93 (by decide) ?_
        refine k_sub [(0, .ref (adr X.G a 6 0)), (1, .int x1), (2, .int x2), (3, .int x3), (4, .int x4), (5, .int x5), (6, .int x_28)] [1, 2, 3, 4, 5, 6, 0] rfl ?_
        exact ih _ _ _ _ _ _ _ h
      · have h := h.2 c_27
        refine k_aload_n hC (pc := 63) dX12_post_63 0 rfl ?_
        refine gf_X12_14 hC (pc := 64)  fl_RX12_37 dX12_post_64 ?_
        refine k_iload hC (pc := 67) dX12_post_67 6 rfl ?_
        obtain ⟨c_29, h⟩ := h
        refine r_iald hC (pc := 69) ra5_14 c_29 dX12_post_69 ?_
        refine k_iload hC (pc := 70) dX12_post_70 5 rfl ?_
        refine k_icmp_gt hC (pc := 72) 90 dX12_post_72 (by decide) (fun c_30 => ?_) (fun c_30 => ?_)
        · have h := h.1 c_30
          obtain ⟨x_31, h_x_31⟩ : ∃ z : Int32, z = x6 + 1 := ⟨_, rfl⟩
          have h := h x_31 h_x_31
          refine k_iincw hC (pc := 90) dX12_post_90 6 rfl ic_1 h_x_31.symm [(6, .int x_31), (0, .ref (adr X.G a 6 0)), (1, .int x1), (2, .int x2), (3, .int x3), (4, .int x4), (5, .int x5)] (by decide) rfl ?_
          refine k_goto hC (pc := 93) 43 dX12_post_93 (by decide) ?_
          refine k_sub [(0, .ref (adr X.G a 6 0)), (1, .int x1), (2, .int x2), (3, .int x3), (4, .int x4), (5, .int x5), (6, .int x_31)] [1, 2, 3, 4, 5, 6, 0] rfl ?_
          exact ih _ _ _ _ _ _ _ h
        · have h := h.2 c_30
          refine k_iload hC (pc := 75) dX12_post_75 4 rfl ?_
          refine k_aload_n hC (pc := 77) dX12_post_77 0 rfl ?_
          refine gf_X12_15 hC (pc := 78)  fl_RX12_40 dX12_post_78 ?_
          refine k_iload hC (pc := 81) dX12_post_81 6 rfl ?_
          obtain ⟨c_32, h⟩ := h
          refine r_iald hC (pc := 83) ra5_15 c_32 dX12_post_83 ?_
          refine k_icmp_gt hC (pc := 84) 90 dX12_post_84 (by decide) (fun c_33 => ?_) (fun c_33 => ?_)
          · have h := h.1 c_33
            obtain ⟨x_34, h_x_34⟩ : ∃ z : Int32, z = x6 + 1 := ⟨_, rfl⟩
            have h := h x_34 h_x_34
            refine k_iincw hC (pc := 90) dX12_post_90 6 rfl ic_1 h_x_34.symm [(6, .int x_34), (0, .ref (adr X.G a 6 0)), (1, .int x1), (2, .int x2), (3, .int x3), (4, .int x4), (5, .int x5)] (by decide) rfl ?_
            refine k_goto hC (pc := 93) 43 dX12_post_93 (by decide) ?_
            refine k_sub [(0, .ref (adr X.G a 6 0)), (1, .int x1), (2, .int x2), (3, .int x3), (4, .int x4), (5, .int x5), (6, .int x_34)] [1, 2, 3, 4, 5, 6, 0] rfl ?_
            exact ih _ _ _ _ _ _ _ h
          · have h := h.2 c_33
            refine k_bipush hC (pc := 87) (v := (-3)) dX12_post_87 bp_m3 ?_
            exact k_iret hC (pc := 89) hQ hr dX12_post_89 h
set_option maxHeartbeats 4000000 in
theorem b_X12_post {X : Kx} {a : Ax} {N : Nat} {post : Int32 → Sx → Prop} (hC : Cx X cX12_post 7 RX12) (hR : X.R = { frames := 3, cells := 0, slots := 0, locals := 63 }) (hQ : X.Q = MQ X.below (Qi X.G a post) X.av X.s 0 0 (bs_ X.G)) (hr : X.meth.sig.returnType = (some .int)) (hn : X.meth.name = "post") (s : Sx) (x1 : Int32) (x2 : Int32) (x3 : Int32) (x4 : Int32) (x5 : Int32) (h : w_X12_post N x1 x2 x3 x4 x5 s post) : wk X a s 7 0 [(0, .ref (adr X.G a 6 0)), (1, .int x1), (2, .int x2), (3, .int x3), (4, .int x4), (5, .int x5)] [] 0 0 := by
  unfold w_X12_post at h
  refine k_aload_n hC (pc := 0) dX12_post_0 0 rfl ?_
  refine k_iload_n hC (pc := 1) dX12_post_1 2 rfl ?_
  refine k_ci (rn_V hC (pc := 2) (As := [.int x2]) (rest := []) ca_X12_isMan ml_RX12_207 im_X12_isMan se_X12_isMan (fx_in f6_0) (ob6_0 _ _ _ _ _) rfl rfl (ct_X12_isMan x2 h) (by rw [hR]; exact ⟨rfl, rfl, by decide, by decide⟩) rfl (Nat.le_of_ble_eq_true rfl) dX12_post_2 ⟨by rw [hR]; decide, by rw [hR]; decide⟩) (fun r_2 s_1 h => ?_)
  refine k_if_eq hC (pc := 5) 16 dX12_post_5 (by decide) (fun c_3 => ?_) (fun c_3 => ?_)
  · have h := h.1 c_3
    refine k_iconst hC (pc := 16) (v := (-1)) dX12_post_16 ic_m1 ?_
    exact k_iret hC (pc := 17) hQ hr dX12_post_17 h
  · have h := h.2 c_3
    refine k_aload_n hC (pc := 8) dX12_post_8 0 rfl ?_
    refine k_iload_n hC (pc := 9) dX12_post_9 3 rfl ?_
    refine k_ci (rn_V hC (pc := 10) (As := [.int x3]) (rest := []) ca_X12_isCamp ml_RX12_210 im_X12_isCamp se_X12_isCamp (fx_in f6_0) (ob6_0 _ _ _ _ _) rfl rfl (ct_X12_isCamp x3 h) (by rw [hR]; exact ⟨rfl, rfl, by decide, by decide⟩) rfl (Nat.le_of_ble_eq_true rfl) dX12_post_10 ⟨by rw [hR]; decide, by rw [hR]; decide⟩) (fun r_5 s_4 h => ?_)
    refine k_if_ne hC (pc := 13) 18 dX12_post_13 (by decide) (fun c_6 => ?_) (fun c_6 => ?_)
    · have h := h.1 c_6
      refine k_iload_n hC (pc := 18) dX12_post_18 1 rfl ?_
      refine k_iconst hC (pc := 19) (v := 0) dX12_post_19 ic_0 ?_
      refine k_iconst hC (pc := 20) (v := 2) dX12_post_20 ic_2 ?_
      refine k_ci (rn_S hC (pc := 21) (As := [.int x1, .int 0, .int 2]) (rest := []) ca_X12_within ml_RX12_186 sm_X12_within (ct_X12_within x1 0 2 h) (by rw [hR]; exact ⟨rfl, rfl, by decide, by decide⟩) rfl (Nat.le_of_ble_eq_true rfl) dX12_post_21 ⟨by rw [hR]; decide, by rw [hR]; decide⟩) (fun r_8 s_7 h => ?_)
      refine k_if_eq hC (pc := 24) 37 dX12_post_24 (by decide) (fun c_9 => ?_) (fun c_9 => ?_)
      · have h := h.1 c_9
        refine k_bipush hC (pc := 37) (v := (-2)) dX12_post_37 bp_m2 ?_
        exact k_iret hC (pc := 39) hQ hr dX12_post_39 h
      · have h := h.2 c_9
        refine k_iload hC (pc := 27) dX12_post_27 4 rfl ?_
        refine k_iload hC (pc := 29) dX12_post_29 5 rfl ?_
        refine k_ci (rn_S hC (pc := 31) (As := [.int x4, .int x5]) (rest := []) ca_X12_areDays ml_RX12_213 sm_X12_areDays (ct_X12_areDays x4 x5 h) (by rw [hR]; exact ⟨rfl, rfl, by decide, by decide⟩) rfl (Nat.le_of_ble_eq_true rfl) dX12_post_31 ⟨by rw [hR]; decide, by rw [hR]; decide⟩) (fun r_11 s_10 h => ?_)
        refine k_if_ne hC (pc := 34) 40 dX12_post_34 (by decide) (fun c_12 => ?_) (fun c_12 => ?_)
        · have h := h.1 c_12
          refine k_iconst hC (pc := 40) (v := 0) dX12_post_40 ic_0 ?_
          refine k_istore hC (pc := 41) dX12_post_41 [(6, .int 0), (0, .ref (adr X.G a 6 0)), (1, .int x1), (2, .int x2), (3, .int x3), (4, .int x4), (5, .int x5)] (by decide) rfl ?_
          refine k_sub [(0, .ref (adr X.G a 6 0)), (1, .int x1), (2, .int x2), (3, .int x3), (4, .int x4), (5, .int x5), (6, .int 0)] [1, 2, 3, 4, 5, 6, 0] rfl ?_
          exact b_X12_post_43 hC hR hQ hr N _ _ _ _ _ _ _ h
        · have h := h.2 c_12
          refine k_bipush hC (pc := 37) (v := (-2)) dX12_post_37 bp_m2 ?_
          exact k_iret hC (pc := 39) hQ hr dX12_post_39 h
    · have h := h.2 c_6
      refine k_iconst hC (pc := 16) (v := (-1)) dX12_post_16 ic_m1 ?_
      exact k_iret hC (pc := 17) hQ hr dX12_post_17 h
theorem ct_X12_post {l : Launch} {G : Gx} {a : Ax} {s : Sx} {N : Nat} {post : Int32 → Sx → Prop} (x1 : Int32) (x2 : Int32) (x3 : Int32) (x4 : Int32) (x5 : Int32) (h : w_X12_post N x1 x2 x3 x4 x5 s post) : Met l yX12_post (Cond.code yX12_post cX12_post 7 (some .int) :: gw) { frames := 3, cells := 0, slots := 0, locals := 63 } (va_Pc [.ref (adr G a 6 0), .int x1, .int x2, .int x3, .int x4, .int x5] (fun U => FU G a s U)) (Qi G a post) 0 0 (bs_ G) := met_of (plainFor_of_name (by decide)) (Nat.le_of_ble_eq_true rfl) rfl (fun X hC hl hR hQ hr hG hn => by subst hG; exact b_X12_post hC hR hQ hr hn s x1 x2 x3 x4 x5 h)
theorem ca_X12_post : Ca yX12_post cX12_post 7 (some .int) 5 := ⟨cd_X12_post, ii_RX12, by decide, by decide, by decide +kernel⟩
def w_X12_postOn_2 (N : Nat) (post : Int32 → Sx → Prop) : Nat → Sx → Int32 → Int32 → Int32 → Prop
  | 0, _, _, _, _ => False
  | n + 1, s, x1, x2, x3 => ((s.1 6 0 10) ≤ x3 → post ((-9)) s) ∧ (¬ ((s.1 6 0 10) ≤ x3) → vp_in x3 30 ∧ (¬ (s.1 5 12 x3.toNatClampNeg) = x1 → ∀ x_4 : Int32, x_4 = x3 + 1 → w_X12_postOn_2 N post n s x1 x2 x_4) ∧ (¬ (¬ (s.1 5 12 x3.toNatClampNeg) = x1) → vp_in x3 30 ∧ vp_in x3 30 ∧ w_X12_within N x2 (s.1 5 14 x3.toNatClampNeg) (s.1 5 15 x3.toNatClampNeg) s (fun r_8 s_7 => (r_8 = 0 → ∀ x_10 : Int32, x_10 = x3 + 1 → w_X12_postOn_2 N post n s_7 x1 x2 x_10) ∧ (¬ (r_8 = 0) → post x3 s_7))))
def w_X12_postOn (N : Nat) (x1 : Int32) (x2 : Int32) (s : Sx) (post : Int32 → Sx → Prop) : Prop := w_X12_postOn_2 N post N s x1 x2 0
set_option maxHeartbeats 4000000 in
theorem b_X12_postOn_2 {X : Kx} {a : Ax} {N : Nat} {post : Int32 → Sx → Prop}  (hC : Cx X cX12_postOn 4 RX12) (hR : X.R = { frames := 1, cells := 0, slots := 0, locals := 22 }) (hQ : X.Q = MQ X.below (Qi X.G a post) X.av X.s 0 0 (bs_ X.G)) (hr : X.meth.sig.returnType = (some .int))   : ∀ (n : Nat) (s : Sx) (x1 : Int32) (x2 : Int32) (x3 : Int32), w_X12_postOn_2 N post  n s x1 x2 x3 → wk X a s 4 2 [(0, .ref (adr X.G a 6 0)), (1, .int x1), (2, .int x2), (3, .int x3)] [] 0 0 := by
  intro n
  induction n with
  | zero => intro s x1 x2 x3 h; exact h.elim
  | succ n ih =>
    intro s x1 x2 x3 h
    unfold w_X12_postOn_2 at h
    refine k_iload_n hC (pc := 2) dX12_postOn_2 3 rfl ?_
    refine k_aload_n hC (pc := 3) dX12_postOn_3 0 rfl ?_
    refine gf_X12_10 hC (pc := 4)  fl_RX12_196 dX12_postOn_4 ?_
    refine k_icmp_ge hC (pc := 7) 47 dX12_postOn_7 (by decide) (fun c_1 => ?_) (fun c_1 => ?_)
    · have h := h.1 c_1
      refine k_bipush hC (pc := 47) (v := (-9)) dX12_postOn_47 bp_m9 ?_
      exact k_iret hC (pc := 49) hQ hr dX12_postOn_49 h
    · have h := h.2 c_1
      refine k_aload_n hC (pc := 10) dX12_postOn_10 0 rfl ?_
      refine gf_X12_12 hC (pc := 11)  fl_RX12_31 dX12_postOn_11 ?_
      refine k_iload_n hC (pc := 14) dX12_postOn_14 3 rfl ?_
      obtain ⟨c_2, h⟩ := h
      refine r_iald hC (pc := 15) ra5_12 c_2 dX12_postOn_15 ?_
      refine k_iload_n hC (pc := 16) dX12_postOn_16 1 rfl ?_
      refine k_icmp_ne hC (pc := 17) 41 dX12_postOn_17 (by decide) (fun c_3 => ?_) (fun c_3 => ?_)
      · have h := h.1 c_3
        obtain ⟨x_4, h_x_4⟩ : ∃ z : Int32, z = x3 + 1 := ⟨_, rfl⟩
        have h := h x_4 h_x_4
        refine k_iincw hC (pc := 41) dX12_postOn_41 3 rfl ic_1 h_x_4.symm [(3, .int x_4), (0, .ref (adr X.G a 6 0)), (1, .int x1), (2, .int x2)] (by decide) rfl ?_
        refine k_goto hC (pc := 44) 2 dX12_postOn_44 (by decide) ?_
        refine k_sub [(0, .ref (adr X.G a 6 0)), (1, .int x1), (2, .int x2), (3, .int x_4)] [1, 2, 3, 0] rfl ?_
        exact ih _ _ _ _ h
      · have h := h.2 c_3
        refine k_iload_n hC (pc := 20) dX12_postOn_20 2 rfl ?_
        refine k_aload_n hC (pc := 21) dX12_postOn_21 0 rfl ?_
        refine gf_X12_14 hC (pc := 22)  fl_RX12_37 dX12_postOn_22 ?_
        refine k_iload_n hC (pc := 25) dX12_postOn_25 3 rfl ?_
        obtain ⟨c_5, h⟩ := h
        refine r_iald hC (pc := 26) ra5_14 c_5 dX12_postOn_26 ?_
        refine k_aload_n hC (pc := 27) dX12_postOn_27 0 rfl ?_
        refine gf_X12_15 hC (pc := 28)  fl_RX12_40 dX12_postOn_28 ?_
        refine k_iload_n hC (pc := 31) dX12_postOn_31 3 rfl ?_
        obtain ⟨c_6, h⟩ := h
        refine r_iald hC (pc := 32) ra5_15 c_6 dX12_postOn_32 ?_
        refine k_ci (rn_S hC (pc := 33) (As := [.int x2, .int (s.1 5 14 x3.toNatClampNeg), .int (s.1 5 15 x3.toNatClampNeg)]) (rest := []) ca_X12_within ml_RX12_186 sm_X12_within (ct_X12_within x2 (s.1 5 14 x3.toNatClampNeg) (s.1 5 15 x3.toNatClampNeg) h) (by rw [hR]; exact ⟨rfl, rfl, by decide, by decide⟩) rfl (Nat.le_of_ble_eq_true rfl) dX12_postOn_33 ⟨by rw [hR]; decide, by rw [hR]; decide⟩) (fun r_8 s_7 h => ?_)
        refine k_if_eq hC (pc := 36) 41 dX12_postOn_36 (by decide) (fun c_9 => ?_) (fun c_9 => ?_)
        · have h := h.1 c_9
          obtain ⟨x_10, h_x_10⟩ : ∃ z : Int32, z = x3 + 1 := ⟨_, rfl⟩
          have h := h x_10 h_x_10
          refine k_iincw hC (pc := 41) dX12_postOn_41 3 rfl ic_1 h_x_10.symm [(3, .int x_10), (0, .ref (adr X.G a 6 0)), (1, .int x1), (2, .int x2)] (by decide) rfl ?_
          refine k_goto hC (pc := 44) 2 dX12_postOn_44 (by decide) ?_
          refine k_sub [(0, .ref (adr X.G a 6 0)), (1, .int x1), (2, .int x2), (3, .int x_10)] [1, 2, 3, 0] rfl ?_
          exact ih _ _ _ _ h
        · have h := h.2 c_9
          refine k_iload_n hC (pc := 39) dX12_postOn_39 3 rfl ?_
          exact k_iret hC (pc := 40) hQ hr dX12_postOn_40 h
set_option maxHeartbeats 4000000 in
theorem b_X12_postOn {X : Kx} {a : Ax} {N : Nat} {post : Int32 → Sx → Prop} (hC : Cx X cX12_postOn 4 RX12) (hR : X.R = { frames := 1, cells := 0, slots := 0, locals := 22 }) (hQ : X.Q = MQ X.below (Qi X.G a post) X.av X.s 0 0 (bs_ X.G)) (hr : X.meth.sig.returnType = (some .int)) (hn : X.meth.name = "postOn") (s : Sx) (x1 : Int32) (x2 : Int32) (h : w_X12_postOn N x1 x2 s post) : wk X a s 4 0 [(0, .ref (adr X.G a 6 0)), (1, .int x1), (2, .int x2)] [] 0 0 := by
  unfold w_X12_postOn at h
  refine k_iconst hC (pc := 0) (v := 0) dX12_postOn_0 ic_0 ?_
  refine k_istore_n hC (pc := 1) dX12_postOn_1 [(3, .int 0), (0, .ref (adr X.G a 6 0)), (1, .int x1), (2, .int x2)] (by decide) rfl ?_
  refine k_sub [(0, .ref (adr X.G a 6 0)), (1, .int x1), (2, .int x2), (3, .int 0)] [1, 2, 3, 0] rfl ?_
  exact b_X12_postOn_2 hC hR hQ hr N _ _ _ _ h
theorem ct_X12_postOn {l : Launch} {G : Gx} {a : Ax} {s : Sx} {N : Nat} {post : Int32 → Sx → Prop} (x1 : Int32) (x2 : Int32) (h : w_X12_postOn N x1 x2 s post) : Met l yX12_postOn (Cond.code yX12_postOn cX12_postOn 4 (some .int) :: gw) { frames := 1, cells := 0, slots := 0, locals := 22 } (va_Pc [.ref (adr G a 6 0), .int x1, .int x2] (fun U => FU G a s U)) (Qi G a post) 0 0 (bs_ G) := met_of (plainFor_of_name (by decide)) (Nat.le_of_ble_eq_true rfl) rfl (fun X hC hl hR hQ hr hG hn => by subst hG; exact b_X12_postOn hC hR hQ hr hn s x1 x2 h)
theorem ca_X12_postOn : Ca yX12_postOn cX12_postOn 4 (some .int) 2 := ⟨cd_X12_postOn, ii_RX12, by decide, by decide, by decide +kernel⟩
def w_X12_day (N : Nat) (x1 : Int32) (x2 : Int32) (s : Sx) (post : Int32 → Sx → Prop) : Prop := w_X12_isMan N x1 s (fun r_2 s_1 => (¬ r_2 = 0 → w_X12_isDay N x2 s_1 (fun r_5 s_4 => (r_5 = 0 → post ((-2)) s_4) ∧ (¬ (r_5 = 0) → w_X12_postOn N x1 x2 s_4 (fun r_8 s_7 => post r_8 s_7)))) ∧ (¬ (¬ r_2 = 0) → post ((-1)) s_1))
set_option maxHeartbeats 4000000 in
theorem b_X12_day {X : Kx} {a : Ax} {N : Nat} {post : Int32 → Sx → Prop} (hC : Cx X cX12_day 3 RX12) (hR : X.R = { frames := 2, cells := 0, slots := 0, locals := 45 }) (hQ : X.Q = MQ X.below (Qi X.G a post) X.av X.s 0 0 (bs_ X.G)) (hr : X.meth.sig.returnType = (some .int)) (hn : X.meth.name = "day") (s : Sx) (x1 : Int32) (x2 : Int32) (h : w_X12_day N x1 x2 s post) : wk X a s 3 0 [(0, .ref (adr X.G a 6 0)), (1, .int x1), (2, .int x2)] [] 0 0 := by
  unfold w_X12_day at h
  refine k_aload_n hC (pc := 0) dX12_day_0 0 rfl ?_
  refine k_iload_n hC (pc := 1) dX12_day_1 1 rfl ?_
  refine k_ci (rn_V hC (pc := 2) (As := [.int x1]) (rest := []) ca_X12_isMan ml_RX12_207 im_X12_isMan se_X12_isMan (fx_in f6_0) (ob6_0 _ _ _ _ _) rfl rfl (ct_X12_isMan x1 h) (by rw [hR]; exact ⟨rfl, rfl, by decide, by decide⟩) rfl (Nat.le_of_ble_eq_true rfl) dX12_day_2 ⟨by rw [hR]; decide, by rw [hR]; decide⟩) (fun r_2 s_1 h => ?_)
  refine k_if_ne hC (pc := 5) 10 dX12_day_5 (by decide) (fun c_3 => ?_) (fun c_3 => ?_)
  · have h := h.1 c_3
    refine k_iload_n hC (pc := 10) dX12_day_10 2 rfl ?_
    refine k_ci (rn_S hC (pc := 11) (As := [.int x2]) (rest := []) ca_X12_isDay ml_RX12_203 sm_X12_isDay (ct_X12_isDay x2 h) (by rw [hR]; exact ⟨rfl, rfl, by decide, by decide⟩) rfl (Nat.le_of_ble_eq_true rfl) dX12_day_11 ⟨by rw [hR]; decide, by rw [hR]; decide⟩) (fun r_5 s_4 h => ?_)
    refine k_if_eq hC (pc := 14) 26 dX12_day_14 (by decide) (fun c_6 => ?_) (fun c_6 => ?_)
    · have h := h.1 c_6
      refine k_bipush hC (pc := 26) (v := (-2)) dX12_day_26 bp_m2 ?_
      exact k_iret hC (pc := 28) hQ hr dX12_day_28 h
    · have h := h.2 c_6
      refine k_aload_n hC (pc := 17) dX12_day_17 0 rfl ?_
      refine k_iload_n hC (pc := 18) dX12_day_18 1 rfl ?_
      refine k_iload_n hC (pc := 19) dX12_day_19 2 rfl ?_
      refine k_ci (rn_V hC (pc := 20) (As := [.int x1, .int x2]) (rest := []) ca_X12_postOn ml_RX12_216 im_X12_postOn se_X12_postOn (fx_in f6_0) (ob6_0 _ _ _ _ _) rfl rfl (ct_X12_postOn x1 x2 h) (by rw [hR]; exact ⟨rfl, rfl, by decide, by decide⟩) rfl (Nat.le_of_ble_eq_true rfl) dX12_day_20 ⟨by rw [hR]; decide, by rw [hR]; decide⟩) (fun r_8 s_7 h => ?_)
      refine k_goto hC (pc := 23) 28 dX12_day_23 (by decide) ?_
      exact k_iret hC (pc := 28) hQ hr dX12_day_28 h
  · have h := h.2 c_3
    refine k_iconst hC (pc := 8) (v := (-1)) dX12_day_8 ic_m1 ?_
    exact k_iret hC (pc := 9) hQ hr dX12_day_9 h
theorem ct_X12_day {l : Launch} {G : Gx} {a : Ax} {s : Sx} {N : Nat} {post : Int32 → Sx → Prop} (x1 : Int32) (x2 : Int32) (h : w_X12_day N x1 x2 s post) : Met l yX12_day (Cond.code yX12_day cX12_day 3 (some .int) :: gw) { frames := 2, cells := 0, slots := 0, locals := 45 } (va_Pc [.ref (adr G a 6 0), .int x1, .int x2] (fun U => FU G a s U)) (Qi G a post) 0 0 (bs_ G) := met_of (plainFor_of_name (by decide)) (Nat.le_of_ble_eq_true rfl) rfl (fun X hC hl hR hQ hr hG hn => by subst hG; exact b_X12_day hC hR hQ hr hn s x1 x2 h)
theorem ca_X12_day : Ca yX12_day cX12_day 3 (some .int) 2 := ⟨cd_X12_day, ii_RX12, by decide, by decide, by decide +kernel⟩
def w_X12_menAt_51 (N : Nat) (post : Int32 → Sx → Prop) (K5 : Sx → Int32 → Int32 → Int32 → Int32 → Prop) (s : Sx) (x1 : Int32) (x2 : Int32) (x4 : Int32) (z0 : Int32) : Prop := ∀ x_4 : Int32, x_4 = z0 + 0 → ∀ x_5 : Int32, x_5 = x4 + 1 → K5 s x1 x2 x_4 x_5
def w_X12_menAt_5 (N : Nat) (post : Int32 → Sx → Prop) : Nat → Sx → Int32 → Int32 → Int32 → Int32 → Prop
  | 0, _, _, _, _, _ => False
  | n + 1, s, x1, x2, x3, x4 => ((s.1 6 0 10) ≤ x4 → post x3 s) ∧ (¬ ((s.1 6 0 10) ≤ x4) → vp_in x4 30 ∧ (¬ (s.1 5 13 x4.toNatClampNeg) = x1 → w_X12_menAt_51 N post (w_X12_menAt_5 N post n) s x1 x2 x4 x3) ∧ (¬ (¬ (s.1 5 13 x4.toNatClampNeg) = x1) → vp_in x4 30 ∧ vp_in x4 30 ∧ w_X12_within N x2 (s.1 5 14 x4.toNatClampNeg) (s.1 5 15 x4.toNatClampNeg) s (fun r_9 s_8 => (r_9 = 0 → w_X12_menAt_51 N post (w_X12_menAt_5 N post n) s_8 x1 x2 x4 x3) ∧ (¬ (r_9 = 0) → ∀ x_11 : Int32, x_11 = x3 + 1 → ∀ x_12 : Int32, x_12 = x4 + 1 → w_X12_menAt_5 N post n s_8 x1 x2 x_11 x_12))))
def w_X12_menAt (N : Nat) (x1 : Int32) (x2 : Int32) (s : Sx) (post : Int32 → Sx → Prop) : Prop := w_X12_menAt_5 N post N s x1 x2 0 0
set_option maxHeartbeats 4000000 in
theorem b_X12_menAt_51 {X : Kx} {a : Ax} {N : Nat} {post : Int32 → Sx → Prop} {K5 : Sx → Int32 → Int32 → Int32 → Int32 → Prop}  (hC : Cx X cX12_menAt 5 RX12) (hR : X.R = { frames := 1, cells := 0, slots := 0, locals := 22 }) (hQ : X.Q = MQ X.below (Qi X.G a post) X.av X.s 0 0 (bs_ X.G)) (hr : X.meth.sig.returnType = (some .int))  (hK5 : ∀ (s : Sx) (x1 : Int32) (x2 : Int32) (x3 : Int32) (x4 : Int32), K5 s x1 x2 x3 x4 → wk X a s 5 5 [(0, .ref (adr X.G a 6 0)), (1, .int x1), (2, .int x2), (3, .int x3), (4, .int x4)] [] 0 0) (s : Sx) (x1 : Int32) (x2 : Int32) (x4 : Int32) (z0 : Int32) (h : w_X12_menAt_51 N post K5 s x1 x2 x4 z0) : wk X a s 5 51 [(0, .ref (adr X.G a 6 0)), (1, .int x1), (2, .int x2), (4, .int x4)] [.int z0] 0 0 := by
  unfold w_X12_menAt_51 at h
  refine k_iconst hC (pc := 51) (v := 0) dX12_menAt_51 ic_0 ?_
  refine k_iadd hC (pc := 52) dX12_menAt_52 ?_
  refine k_topi (fun x_4 h_x_4 => ?_)
  have h := h x_4 h_x_4
  refine k_istore_n hC (pc := 53) dX12_menAt_53 [(3, .int x_4), (0, .ref (adr X.G a 6 0)), (1, .int x1), (2, .int x2), (4, .int x4)] (by decide) rfl ?_
  obtain ⟨x_5, h_x_5⟩ : ∃ z : Int32, z = x4 + 1 := ⟨_, rfl⟩
  have h := h x_5 h_x_5
  refine k_iincw hC (pc := 54) dX12_menAt_54 4 rfl ic_1 h_x_5.symm [(4, .int x_5), (3, .int x_4), (0, .ref (adr X.G a 6 0)), (1, .int x1), (2, .int x2)] (by decide) rfl ?_
  refine k_goto hC (pc := 57) 5 dX12_menAt_57 (by decide) ?_
  refine k_sub [(0, .ref (adr X.G a 6 0)), (1, .int x1), (2, .int x2), (3, .int x_4), (4, .int x_5)] [2, 3, 4, 1, 0] rfl ?_
  exact hK5 _ _ _ _ _ h
set_option maxHeartbeats 4000000 in
theorem b_X12_menAt_5 {X : Kx} {a : Ax} {N : Nat} {post : Int32 → Sx → Prop}  (hC : Cx X cX12_menAt 5 RX12) (hR : X.R = { frames := 1, cells := 0, slots := 0, locals := 22 }) (hQ : X.Q = MQ X.below (Qi X.G a post) X.av X.s 0 0 (bs_ X.G)) (hr : X.meth.sig.returnType = (some .int))   : ∀ (n : Nat) (s : Sx) (x1 : Int32) (x2 : Int32) (x3 : Int32) (x4 : Int32), w_X12_menAt_5 N post  n s x1 x2 x3 x4 → wk X a s 5 5 [(0, .ref (adr X.G a 6 0)), (1, .int x1), (2, .int x2), (3, .int x3), (4, .int x4)] [] 0 0 := by
  intro n
  induction n with
  | zero => intro s x1 x2 x3 x4 h; exact h.elim
  | succ n ih =>
    intro s x1 x2 x3 x4 h
    unfold w_X12_menAt_5 at h
    refine k_iload hC (pc := 5) dX12_menAt_5 4 rfl ?_
    refine k_aload_n hC (pc := 7) dX12_menAt_7 0 rfl ?_
    refine gf_X12_10 hC (pc := 8)  fl_RX12_196 dX12_menAt_8 ?_
    refine k_icmp_ge hC (pc := 11) 60 dX12_menAt_11 (by decide) (fun c_1 => ?_) (fun c_1 => ?_)
    · have h := h.1 c_1
      refine k_iload_n hC (pc := 60) dX12_menAt_60 3 rfl ?_
      exact k_iret hC (pc := 61) hQ hr dX12_menAt_61 h
    · have h := h.2 c_1
      refine k_iload_n hC (pc := 14) dX12_menAt_14 3 rfl ?_
      refine k_aload_n hC (pc := 15) dX12_menAt_15 0 rfl ?_
      refine gf_X12_13 hC (pc := 16)  fl_RX12_34 dX12_menAt_16 ?_
      refine k_iload hC (pc := 19) dX12_menAt_19 4 rfl ?_
      obtain ⟨c_2, h⟩ := h
      refine r_iald hC (pc := 21) ra5_13 c_2 dX12_menAt_21 ?_
      refine k_iload_n hC (pc := 22) dX12_menAt_22 1 rfl ?_
      refine k_icmp_ne hC (pc := 23) 51 dX12_menAt_23 (by decide) (fun c_3 => ?_) (fun c_3 => ?_)
      · have h := h.1 c_3
        refine k_sub [(0, .ref (adr X.G a 6 0)), (1, .int x1), (2, .int x2), (4, .int x4)] [0, 1, 2, 4] rfl ?_
        exact b_X12_menAt_51 hC hR hQ hr ih _ _ _ _ _ h
      · have h := h.2 c_3
        refine k_iload_n hC (pc := 26) dX12_menAt_26 2 rfl ?_
        refine k_aload_n hC (pc := 27) dX12_menAt_27 0 rfl ?_
        refine gf_X12_14 hC (pc := 28)  fl_RX12_37 dX12_menAt_28 ?_
        refine k_iload hC (pc := 31) dX12_menAt_31 4 rfl ?_
        obtain ⟨c_6, h⟩ := h
        refine r_iald hC (pc := 33) ra5_14 c_6 dX12_menAt_33 ?_
        refine k_aload_n hC (pc := 34) dX12_menAt_34 0 rfl ?_
        refine gf_X12_15 hC (pc := 35)  fl_RX12_40 dX12_menAt_35 ?_
        refine k_iload hC (pc := 38) dX12_menAt_38 4 rfl ?_
        obtain ⟨c_7, h⟩ := h
        refine r_iald hC (pc := 40) ra5_15 c_7 dX12_menAt_40 ?_
        refine k_ci (rn_S hC (pc := 41) (As := [.int x2, .int (s.1 5 14 x4.toNatClampNeg), .int (s.1 5 15 x4.toNatClampNeg)]) (rest := [.int x3]) ca_X12_within ml_RX12_186 sm_X12_within (ct_X12_within x2 (s.1 5 14 x4.toNatClampNeg) (s.1 5 15 x4.toNatClampNeg) h) (by rw [hR]; exact ⟨rfl, rfl, by decide, by decide⟩) rfl (Nat.le_of_ble_eq_true rfl) dX12_menAt_41 ⟨by rw [hR]; decide, by rw [hR]; decide⟩) (fun r_9 s_8 h => ?_)
        refine k_if_eq hC (pc := 44) 51 dX12_menAt_44 (by decide) (fun c_10 => ?_) (fun c_10 => ?_)
        · have h := h.1 c_10
          refine k_sub [(0, .ref (adr X.G a 6 0)), (1, .int x1), (2, .int x2), (4, .int x4)] [0, 1, 2, 4] rfl ?_
          exact b_X12_menAt_51 hC hR hQ hr ih _ _ _ _ _ h
        · have h := h.2 c_10
          refine k_iconst hC (pc := 47) (v := 1) dX12_menAt_47 ic_1 ?_
          refine k_goto hC (pc := 48) 52 dX12_menAt_48 (by decide) ?_
          refine k_iadd hC (pc := 52) dX12_menAt_52 ?_
          refine k_topi (fun x_11 h_x_11 => ?_)
          have h := h x_11 h_x_11
          refine k_istore_n hC (pc := 53) dX12_menAt_53 [(3, .int x_11), (0, .ref (adr X.G a 6 0)), (1, .int x1), (2, .int x2), (4, .int x4)] (by decide) rfl ?_
          obtain ⟨x_12, h_x_12⟩ : ∃ z : Int32, z = x4 + 1 := ⟨_, rfl⟩
          have h := h x_12 h_x_12
          refine k_iincw hC (pc := 54) dX12_menAt_54 4 rfl ic_1 h_x_12.symm [(4, .int x_12), (3, .int x_11), (0, .ref (adr X.G a 6 0)), (1, .int x1), (2, .int x2)] (by decide) rfl ?_
          refine k_goto hC (pc := 57) 5 dX12_menAt_57 (by decide) ?_
          refine k_sub [(0, .ref (adr X.G a 6 0)), (1, .int x1), (2, .int x2), (3, .int x_11), (4, .int x_12)] [2, 3, 4, 1, 0] rfl ?_
          exact ih _ _ _ _ _ h
set_option maxHeartbeats 4000000 in
theorem b_X12_menAt {X : Kx} {a : Ax} {N : Nat} {post : Int32 → Sx → Prop} (hC : Cx X cX12_menAt 5 RX12) (hR : X.R = { frames := 1, cells := 0, slots := 0, locals := 22 }) (hQ : X.Q = MQ X.below (Qi X.G a post) X.av X.s 0 0 (bs_ X.G)) (hr : X.meth.sig.returnType = (some .int)) (hn : X.meth.name = "menAt") (s : Sx) (x1 : Int32) (x2 : Int32) (h : w_X12_menAt N x1 x2 s post) : wk X a s 5 0 [(0, .ref (adr X.G a 6 0)), (1, .int x1), (2, .int x2)] [] 0 0 := by
  unfold w_X12_menAt at h
  refine k_iconst hC (pc := 0) (v := 0) dX12_menAt_0 ic_0 ?_
  refine k_istore_n hC (pc := 1) dX12_menAt_1 [(3, .int 0), (0, .ref (adr X.G a 6 0)), (1, .int x1), (2, .int x2)] (by decide) rfl ?_
  refine k_iconst hC (pc := 2) (v := 0) dX12_menAt_2 ic_0 ?_
  refine k_istore hC (pc := 3) dX12_menAt_3 [(4, .int 0), (3, .int 0), (0, .ref (adr X.G a 6 0)), (1, .int x1), (2, .int x2)] (by decide) rfl ?_
  refine k_sub [(0, .ref (adr X.G a 6 0)), (1, .int x1), (2, .int x2), (3, .int 0), (4, .int 0)] [2, 3, 4, 1, 0] rfl ?_
  exact b_X12_menAt_5 hC hR hQ hr N _ _ _ _ _ h
theorem ct_X12_menAt {l : Launch} {G : Gx} {a : Ax} {s : Sx} {N : Nat} {post : Int32 → Sx → Prop} (x1 : Int32) (x2 : Int32) (h : w_X12_menAt N x1 x2 s post) : Met l yX12_menAt (Cond.code yX12_menAt cX12_menAt 5 (some .int) :: gw) { frames := 1, cells := 0, slots := 0, locals := 22 } (va_Pc [.ref (adr G a 6 0), .int x1, .int x2] (fun U => FU G a s U)) (Qi G a post) 0 0 (bs_ G) := met_of (plainFor_of_name (by decide)) (Nat.le_of_ble_eq_true rfl) rfl (fun X hC hl hR hQ hr hG hn => by subst hG; exact b_X12_menAt hC hR hQ hr hn s x1 x2 h)
theorem ca_X12_menAt : Ca yX12_menAt cX12_menAt 5 (some .int) 2 := ⟨cd_X12_menAt, ii_RX12, by decide, by decide, by decide +kernel⟩
def w_X12_beds (N : Nat) (x1 : Int32) (x2 : Int32) (s : Sx) (post : Int32 → Sx → Prop) : Prop := w_X12_isCamp N x1 s (fun r_2 s_1 => (¬ r_2 = 0 → w_X12_isDay N x2 s_1 (fun r_5 s_4 => (r_5 = 0 → post ((-2)) s_4) ∧ (¬ (r_5 = 0) → w_X12_menAt N x1 x2 s_4 (fun r_8 s_7 => post r_8 s_7)))) ∧ (¬ (¬ r_2 = 0) → post ((-1)) s_1))
set_option maxHeartbeats 4000000 in
theorem b_X12_beds {X : Kx} {a : Ax} {N : Nat} {post : Int32 → Sx → Prop} (hC : Cx X cX12_beds 3 RX12) (hR : X.R = { frames := 2, cells := 0, slots := 0, locals := 46 }) (hQ : X.Q = MQ X.below (Qi X.G a post) X.av X.s 0 0 (bs_ X.G)) (hr : X.meth.sig.returnType = (some .int)) (hn : X.meth.name = "beds") (s : Sx) (x1 : Int32) (x2 : Int32) (h : w_X12_beds N x1 x2 s post) : wk X a s 3 0 [(0, .ref (adr X.G a 6 0)), (1, .int x1), (2, .int x2)] [] 0 0 := by
  unfold w_X12_beds at h
  refine k_aload_n hC (pc := 0) dX12_beds_0 0 rfl ?_
  refine k_iload_n hC (pc := 1) dX12_beds_1 1 rfl ?_
  refine k_ci (rn_V hC (pc := 2) (As := [.int x1]) (rest := []) ca_X12_isCamp ml_RX12_210 im_X12_isCamp se_X12_isCamp (fx_in f6_0) (ob6_0 _ _ _ _ _) rfl rfl (ct_X12_isCamp x1 h) (by rw [hR]; exact ⟨rfl, rfl, by decide, by decide⟩) rfl (Nat.le_of_ble_eq_true rfl) dX12_beds_2 ⟨by rw [hR]; decide, by rw [hR]; decide⟩) (fun r_2 s_1 h => ?_)
  refine k_if_ne hC (pc := 5) 10 dX12_beds_5 (by decide) (fun c_3 => ?_) (fun c_3 => ?_)
  · have h := h.1 c_3
    refine k_iload_n hC (pc := 10) dX12_beds_10 2 rfl ?_
    refine k_ci (rn_S hC (pc := 11) (As := [.int x2]) (rest := []) ca_X12_isDay ml_RX12_203 sm_X12_isDay (ct_X12_isDay x2 h) (by rw [hR]; exact ⟨rfl, rfl, by decide, by decide⟩) rfl (Nat.le_of_ble_eq_true rfl) dX12_beds_11 ⟨by rw [hR]; decide, by rw [hR]; decide⟩) (fun r_5 s_4 h => ?_)
    refine k_if_eq hC (pc := 14) 26 dX12_beds_14 (by decide) (fun c_6 => ?_) (fun c_6 => ?_)
    · have h := h.1 c_6
      refine k_bipush hC (pc := 26) (v := (-2)) dX12_beds_26 bp_m2 ?_
      exact k_iret hC (pc := 28) hQ hr dX12_beds_28 h
    · have h := h.2 c_6
      refine k_aload_n hC (pc := 17) dX12_beds_17 0 rfl ?_
      refine k_iload_n hC (pc := 18) dX12_beds_18 1 rfl ?_
      refine k_iload_n hC (pc := 19) dX12_beds_19 2 rfl ?_
      refine k_ci (rn_V hC (pc := 20) (As := [.int x1, .int x2]) (rest := []) ca_X12_menAt ml_RX12_220 im_X12_menAt se_X12_menAt (fx_in f6_0) (ob6_0 _ _ _ _ _) rfl rfl (ct_X12_menAt x1 x2 h) (by rw [hR]; exact ⟨rfl, rfl, by decide, by decide⟩) rfl (Nat.le_of_ble_eq_true rfl) dX12_beds_20 ⟨by rw [hR]; decide, by rw [hR]; decide⟩) (fun r_8 s_7 h => ?_)
      refine k_goto hC (pc := 23) 28 dX12_beds_23 (by decide) ?_
      exact k_iret hC (pc := 28) hQ hr dX12_beds_28 h
  · have h := h.2 c_3
    refine k_iconst hC (pc := 8) (v := (-1)) dX12_beds_8 ic_m1 ?_
    exact k_iret hC (pc := 9) hQ hr dX12_beds_9 h
theorem ct_X12_beds {l : Launch} {G : Gx} {a : Ax} {s : Sx} {N : Nat} {post : Int32 → Sx → Prop} (x1 : Int32) (x2 : Int32) (h : w_X12_beds N x1 x2 s post) : Met l yX12_beds (Cond.code yX12_beds cX12_beds 3 (some .int) :: gw) { frames := 2, cells := 0, slots := 0, locals := 46 } (va_Pc [.ref (adr G a 6 0), .int x1, .int x2] (fun U => FU G a s U)) (Qi G a post) 0 0 (bs_ G) := met_of (plainFor_of_name (by decide)) (Nat.le_of_ble_eq_true rfl) rfl (fun X hC hl hR hQ hr hG hn => by subst hG; exact b_X12_beds hC hR hQ hr hn s x1 x2 h)
theorem ca_X12_beds : Ca yX12_beds cX12_beds 3 (some .int) 2 := ⟨cd_X12_beds, ii_RX12, by decide, by decide, by decide +kernel⟩
def w_X12_over_12 (N : Nat) (post : Int32 → Sx → Prop) : Nat → Sx → Int32 → Int32 → Prop
  | 0, _, _, _ => False
  | n + 1, s, x1, x2 => (399 < x2 → post ((-9)) s) ∧ (¬ (399 < x2) → w_X12_menAt N x1 x2 s (fun r_6 s_5 => vp_in x1 7 ∧ (r_6 ≤ (s_5.1 5 8 x1.toNatClampNeg) → ∀ x_9 : Int32, x_9 = x2 + 1 → w_X12_over_12 N post n s_5 x1 x_9) ∧ (¬ (r_6 ≤ (s_5.1 5 8 x1.toNatClampNeg)) → post x2 s_5)))
def w_X12_over (N : Nat) (x1 : Int32) (s : Sx) (post : Int32 → Sx → Prop) : Prop := w_X12_isCamp N x1 s (fun r_2 s_1 => (¬ r_2 = 0 → w_X12_over_12 N post N s_1 x1 0) ∧ (¬ (¬ r_2 = 0) → post ((-1)) s_1))
set_option maxHeartbeats 4000000 in
theorem b_X12_over_12 {X : Kx} {a : Ax} {N : Nat} {post : Int32 → Sx → Prop}  (hC : Cx X cX12_over 3 RX12) (hR : X.R = { frames := 2, cells := 0, slots := 0, locals := 46 }) (hQ : X.Q = MQ X.below (Qi X.G a post) X.av X.s 0 0 (bs_ X.G)) (hr : X.meth.sig.returnType = (some .int))   : ∀ (n : Nat) (s : Sx) (x1 : Int32) (x2 : Int32), w_X12_over_12 N post  n s x1 x2 → wk X a s 3 12 [(0, .ref (adr X.G a 6 0)), (1, .int x1), (2, .int x2)] [] 0 0 := by
  intro n
  induction n with
  | zero => intro s x1 x2 h; exact h.elim
  | succ n ih =>
    intro s x1 x2 h
    unfold w_X12_over_12 at h
    refine k_iload_n hC (pc := 12) dX12_over_12 2 rfl ?_
    refine k_sipush hC (pc := 13) (v := 399) dX12_over_13 sp_399 ?_
    refine k_icmp_gt hC (pc := 16) 42 dX12_over_16 (by decide) (fun c_4 => ?_) (fun c_4 => ?_)
    · have h := h.1 c_4
      refine k_bipush hC (pc := 42) (v := (-9)) dX12_over_42 bp_m9 ?_
      exact k_iret hC (pc := 44) hQ hr dX12_over_44 h
    · have h := h.2 c_4
      refine k_aload_n hC (pc := 19) dX12_over_19 0 rfl ?_
      refine k_iload_n hC (pc := 20) dX12_over_20 1 rfl ?_
      refine k_iload_n hC (pc := 21) dX12_over_21 2 rfl ?_
      refine k_ci (rn_V hC (pc := 22) (As := [.int x1, .int x2]) (rest := []) ca_X12_menAt ml_RX12_220 im_X12_menAt se_X12_menAt (fx_in f6_0) (ob6_0 _ _ _ _ _) rfl rfl (ct_X12_menAt x1 x2 h) (by rw [hR]; exact ⟨rfl, rfl, by decide, by decide⟩) rfl (Nat.le_of_ble_eq_true rfl) dX12_over_22 ⟨by rw [hR]; decide, by rw [hR]; decide⟩) (fun r_6 s_5 h => ?_)
      refine k_aload_n hC (pc := 25) dX12_over_25 0 rfl ?_
      refine gf_X12_8 hC (pc := 26)  fl_RX12_25 dX12_over_26 ?_
      refine k_iload_n hC (pc := 29) dX12_over_29 1 rfl ?_
      obtain ⟨c_7, h⟩ := h
      refine r_iald hC (pc := 30) ra5_8 c_7 dX12_over_30 ?_
      refine k_icmp_le hC (pc := 31) 36 dX12_over_31 (by decide) (fun c_8 => ?_) (fun c_8 => ?_)
      · have h := h.1 c_8
        obtain ⟨x_9, h_x_9⟩ : ∃ z : Int32, z = x2 + 1 := ⟨_, rfl⟩
        have h := h x_9 h_x_9
        refine k_iincw hC (pc := 36) dX12_over_36 2 rfl ic_1 h_x_9.symm [(2, .int x_9), (0, .ref (adr X.G a 6 0)), (1, .int x1)] (by decide) rfl ?_
        refine k_goto hC (pc := 39) 12 dX12_over_39 (by decide) ?_
        refine k_sub [(0, .ref (adr X.G a 6 0)), (1, .int x1), (2, .int x_9)] [1, 2, 0] rfl ?_
        exact ih _ _ _ h
      · have h := h.2 c_8
        refine k_iload_n hC (pc := 34) dX12_over_34 2 rfl ?_
        exact k_iret hC (pc := 35) hQ hr dX12_over_35 h
set_option maxHeartbeats 4000000 in
theorem b_X12_over {X : Kx} {a : Ax} {N : Nat} {post : Int32 → Sx → Prop} (hC : Cx X cX12_over 3 RX12) (hR : X.R = { frames := 2, cells := 0, slots := 0, locals := 46 }) (hQ : X.Q = MQ X.below (Qi X.G a post) X.av X.s 0 0 (bs_ X.G)) (hr : X.meth.sig.returnType = (some .int)) (hn : X.meth.name = "over") (s : Sx) (x1 : Int32) (h : w_X12_over N x1 s post) : wk X a s 3 0 [(0, .ref (adr X.G a 6 0)), (1, .int x1)] [] 0 0 := by
  unfold w_X12_over at h
  refine k_aload_n hC (pc := 0) dX12_over_0 0 rfl ?_
  refine k_iload_n hC (pc := 1) dX12_over_1 1 rfl ?_
  refine k_ci (rn_V hC (pc := 2) (As := [.int x1]) (rest := []) ca_X12_isCamp ml_RX12_210 im_X12_isCamp se_X12_isCamp (fx_in f6_0) (ob6_0 _ _ _ _ _) rfl rfl (ct_X12_isCamp x1 h) (by rw [hR]; exact ⟨rfl, rfl, by decide, by decide⟩) rfl (Nat.le_of_ble_eq_true rfl) dX12_over_2 ⟨by rw [hR]; decide, by rw [hR]; decide⟩) (fun r_2 s_1 h => ?_)
  refine k_if_ne hC (pc := 5) 10 dX12_over_5 (by decide) (fun c_3 => ?_) (fun c_3 => ?_)
  · have h := h.1 c_3
    refine k_iconst hC (pc := 10) (v := 0) dX12_over_10 ic_0 ?_
    refine k_istore_n hC (pc := 11) dX12_over_11 [(2, .int 0), (0, .ref (adr X.G a 6 0)), (1, .int x1)] (by decide) rfl ?_
    refine k_sub [(0, .ref (adr X.G a 6 0)), (1, .int x1), (2, .int 0)] [1, 2, 0] rfl ?_
    exact b_X12_over_12 hC hR hQ hr N _ _ _ h
  · have h := h.2 c_3
    refine k_iconst hC (pc := 8) (v := (-1)) dX12_over_8 ic_m1 ?_
    exact k_iret hC (pc := 9) hQ hr dX12_over_9 h
theorem ct_X12_over {l : Launch} {G : Gx} {a : Ax} {s : Sx} {N : Nat} {post : Int32 → Sx → Prop} (x1 : Int32) (h : w_X12_over N x1 s post) : Met l yX12_over (Cond.code yX12_over cX12_over 3 (some .int) :: gw) { frames := 2, cells := 0, slots := 0, locals := 46 } (va_Pc [.ref (adr G a 6 0), .int x1] (fun U => FU G a s U)) (Qi G a post) 0 0 (bs_ G) := met_of (plainFor_of_name (by decide)) (Nat.le_of_ble_eq_true rfl) rfl (fun X hC hl hR hQ hr hG hn => by subst hG; exact b_X12_over hC hR hQ hr hn s x1 h)
theorem ca_X12_over : Ca yX12_over cX12_over 3 (some .int) 1 := ⟨cd_X12_over, ii_RX12, by decide, by decide, by decide +kernel⟩
def w_X12_isSign_36 (N : Nat) (post : Int32 → Sx → Prop) (s : Sx) : Prop := ∀ s_2, s_2 = setI s 6 0 27 (s.1 6 0 25) → post 0 s_2
def w_X12_isSign (N : Nat) (x1 : Int32) (s : Sx) (post : Int32 → Sx → Prop) : Prop := ((s.1 6 0 26) ≤ (s.1 6 0 25) → w_X12_isSign_36 N post s) ∧ (¬ ((s.1 6 0 26) ≤ (s.1 6 0 25)) → vp_in (s.1 6 0 25) 240 ∧ (¬ (s.1 5 4 (s.1 6 0 25).toNatClampNeg) = x1 → w_X12_isSign_36 N post s) ∧ (¬ (¬ (s.1 5 4 (s.1 6 0 25).toNatClampNeg) = x1) → ∀ s_5, s_5 = setI s 6 0 25 ((s.1 6 0 25) + 1) → post 1 s_5))
set_option maxHeartbeats 4000000 in
theorem b_X12_isSign_36 {X : Kx} {a : Ax} {N : Nat} {post : Int32 → Sx → Prop}  (hC : Cx X cX12_isSign 2 RX12) (hR : X.R = { frames := 0, cells := 0, slots := 0, locals := 0 }) (hQ : X.Q = MQ X.below (Qi X.G a post) X.av X.s 0 0 (bs_ X.G)) (hr : X.meth.sig.returnType = (some .boolean))   (s : Sx)  (h : w_X12_isSign_36 N post  s ) : wk X a s 2 36 [(0, .ref (adr X.G a 6 0))] [] 0 0 := by
  unfold w_X12_isSign_36 at h
  refine k_aload_n hC (pc := 36) dX12_isSign_36 0 rfl ?_
  refine k_aload_n hC (pc := 37) dX12_isSign_37 0 rfl ?_
  refine gf_X12_25 hC (pc := 38)  fl_RX12_223 dX12_isSign_38 ?_
  refine pf_X12_27 hC (pc := 41)  fl_RX12_229 dX12_isSign_41 (fun s_2 h_s_2 => ?_)
  have h := h s_2 h_s_2
  refine k_iconst hC (pc := 44) (v := 0) dX12_isSign_44 ic_0 ?_
  exact k_zret hC (pc := 45) hQ hr dX12_isSign_45 (Or.inl rfl) h
set_option maxHeartbeats 4000000 in
theorem b_X12_isSign {X : Kx} {a : Ax} {N : Nat} {post : Int32 → Sx → Prop} (hC : Cx X cX12_isSign 2 RX12) (hR : X.R = { frames := 0, cells := 0, slots := 0, locals := 0 }) (hQ : X.Q = MQ X.below (Qi X.G a post) X.av X.s 0 0 (bs_ X.G)) (hr : X.meth.sig.returnType = (some .boolean)) (hn : X.meth.name = "isSign") (s : Sx) (x1 : Int32) (h : w_X12_isSign N x1 s post) : wk X a s 2 0 [(0, .ref (adr X.G a 6 0)), (1, .int x1)] [] 0 0 := by
  unfold w_X12_isSign at h
  refine k_aload_n hC (pc := 0) dX12_isSign_0 0 rfl ?_
  refine gf_X12_25 hC (pc := 1)  fl_RX12_223 dX12_isSign_1 ?_
  refine k_aload_n hC (pc := 4) dX12_isSign_4 0 rfl ?_
  refine gf_X12_26 hC (pc := 5)  fl_RX12_226 dX12_isSign_5 ?_
  refine k_icmp_ge hC (pc := 8) 36 dX12_isSign_8 (by decide) (fun c_1 => ?_) (fun c_1 => ?_)
  · have h := h.1 c_1
    refine k_sub [(0, .ref (adr X.G a 6 0))] [0] rfl ?_
    exact b_X12_isSign_36 hC hR hQ hr _ h
  · have h := h.2 c_1
    refine k_aload_n hC (pc := 11) dX12_isSign_11 0 rfl ?_
    refine gf_X12_4 hC (pc := 12)  fl_RX12_16 dX12_isSign_12 ?_
    refine k_aload_n hC (pc := 15) dX12_isSign_15 0 rfl ?_
    refine gf_X12_25 hC (pc := 16)  fl_RX12_223 dX12_isSign_16 ?_
    obtain ⟨c_3, h⟩ := h
    refine r_iald hC (pc := 19) ra5_4 c_3 dX12_isSign_19 ?_
    refine k_iload_n hC (pc := 20) dX12_isSign_20 1 rfl ?_
    refine k_icmp_ne hC (pc := 21) 36 dX12_isSign_21 (by decide) (fun c_4 => ?_) (fun c_4 => ?_)
    · have h := h.1 c_4
      refine k_sub [(0, .ref (adr X.G a 6 0))] [0] rfl ?_
      exact b_X12_isSign_36 hC hR hQ hr _ h
    · have h := h.2 c_4
      refine k_aload_n hC (pc := 24) dX12_isSign_24 0 rfl ?_
      refine k_dup hC (pc := 25) dX12_isSign_25 rfl ?_
      refine gf_X12_25 hC (pc := 26)  fl_RX12_223 dX12_isSign_26 ?_
      refine k_iconst hC (pc := 29) (v := 1) dX12_isSign_29 ic_1 ?_
      refine k_iadd hC (pc := 30) dX12_isSign_30 ?_
      refine pf_X12_25 hC (pc := 31)  fl_RX12_223 dX12_isSign_31 (fun s_5 h_s_5 => ?_)
      have h := h s_5 h_s_5
      refine k_iconst hC (pc := 34) (v := 1) dX12_isSign_34 ic_1 ?_
      exact k_zret hC (pc := 35) hQ hr dX12_isSign_35 (Or.inr rfl) h
theorem ct_X12_isSign {l : Launch} {G : Gx} {a : Ax} {s : Sx} {N : Nat} {post : Int32 → Sx → Prop} (x1 : Int32) (h : w_X12_isSign N x1 s post) : Met l yX12_isSign (Cond.code yX12_isSign cX12_isSign 2 (some .boolean) :: gw) { frames := 0, cells := 0, slots := 0, locals := 0 } (va_Pc [.ref (adr G a 6 0), .int x1] (fun U => FU G a s U)) (Qi G a post) 0 0 (bs_ G) := met_of (plainFor_of_name (by decide)) (Nat.le_of_ble_eq_true rfl) rfl (fun X hC hl hR hQ hr hG hn => by subst hG; exact b_X12_isSign hC hR hQ hr hn s x1 h)
theorem ca_X12_isSign : Ca yX12_isSign cX12_isSign 2 (some .boolean) 1 := ⟨cd_X12_isSign, ii_RX12, by decide, by decide, by decide +kernel⟩
def w_X12_number_102 (N : Nat) (post : Int32 → Sx → Prop) (s : Sx) (x4 : Int32) : Prop := ∀ s_4, s_4 = setI s 6 0 27 x4 → post ((-1)) s_4
def w_X12_number_83 (N : Nat) (post : Int32 → Sx → Prop) (s : Sx) (x2 : Int32) (x3 : Int32) (x4 : Int32) (x5 : Int32) : Prop := ((s.1 6 0 25) = x4 → w_X12_number_102 N post s x4) ∧ (¬ ((s.1 6 0 25) = x4) → w_X12_within N x5 x2 x3 s (fun r_6 s_5 => (¬ r_6 = 0 → post x5 s_5) ∧ (¬ (¬ r_6 = 0) → w_X12_number_102 N post s_5 x4)))
def w_X12_number_9 (N : Nat) (post : Int32 → Sx → Prop) : Nat → Sx → Int32 → Int32 → Int32 → Int32 → Int32 → Prop
  | 0, _, _, _, _, _, _ => False
  | n + 1, s, x1, x2, x3, x4, x5 => ((s.1 6 0 26) ≤ (s.1 6 0 25) → w_X12_number_83 N post s x2 x3 x4 x5) ∧ (¬ ((s.1 6 0 26) ≤ (s.1 6 0 25)) → ((x4 + x1) ≤ (s.1 6 0 25) → w_X12_number_83 N post s x2 x3 x4 x5) ∧ (¬ ((x4 + x1) ≤ (s.1 6 0 25)) → vp_in (s.1 6 0 25) 240 ∧ w_X12_within N (s.1 5 4 (s.1 6 0 25).toNatClampNeg) 48 57 s (fun r_11 s_10 => (r_11 = 0 → w_X12_number_83 N post s_10 x2 x3 x4 x5) ∧ (¬ (r_11 = 0) → vp_in (s_10.1 6 0 25) 240 ∧ ∀ x_14 : Int32, x_14 = ((10 * x5) + (s_10.1 5 4 (s_10.1 6 0 25).toNatClampNeg)) - 48 → ∀ s_15, s_15 = setI s_10 6 0 25 ((s_10.1 6 0 25) + 1) → w_X12_number_9 N post n s_15 x1 x2 x3 x4 x_14))))
def w_X12_number (N : Nat) (x1 : Int32) (x2 : Int32) (x3 : Int32) (s : Sx) (post : Int32 → Sx → Prop) : Prop := ∀ x_1 : Int32, x_1 = s.1 6 0 25 → w_X12_number_9 N post N s x1 x2 x3 x_1 0
set_option maxHeartbeats 4000000 in
theorem b_X12_number_102 {X : Kx} {a : Ax} {N : Nat} {post : Int32 → Sx → Prop}  (hC : Cx X cX12_number 6 RX12) (hR : X.R = { frames := 1, cells := 0, slots := 0, locals := 22 }) (hQ : X.Q = MQ X.below (Qi X.G a post) X.av X.s 0 0 (bs_ X.G)) (hr : X.meth.sig.returnType = (some .int))   (s : Sx) (x4 : Int32) (h : w_X12_number_102 N post  s x4) : wk X a s 6 102 [(0, .ref (adr X.G a 6 0)), (4, .int x4)] [] 0 0 := by
  unfold w_X12_number_102 at h
  refine k_aload_n hC (pc := 102) dX12_number_102 0 rfl ?_
  refine k_iload hC (pc := 103) dX12_number_103 1 rfl ?_
  refine pf_X12_27 hC (pc := 105)  fl_RX12_229 dX12_number_105 (fun s_4 h_s_4 => ?_)
  have h := h s_4 h_s_4
  refine k_iconst hC (pc := 108) (v := (-1)) dX12_number_108 ic_m1 ?_
  exact k_iret hC (pc := 109) hQ hr dX12_number_109 h
set_option maxHeartbeats 4000000 in
theorem b_X12_number_83 {X : Kx} {a : Ax} {N : Nat} {post : Int32 → Sx → Prop}  (hC : Cx X cX12_number 6 RX12) (hR : X.R = { frames := 1, cells := 0, slots := 0, locals := 22 }) (hQ : X.Q = MQ X.below (Qi X.G a post) X.av X.s 0 0 (bs_ X.G)) (hr : X.meth.sig.returnType = (some .int))   (s : Sx) (x2 : Int32) (x3 : Int32) (x4 : Int32) (x5 : Int32) (h : w_X12_number_83 N post  s x2 x3 x4 x5) : wk X a s 6 83 [(0, .ref (adr X.G a 6 0)), (2, .int x2), (3, .int x3), (4, .int x4), (5, .int x5)] [] 0 0 := by
  unfold w_X12_number_83 at h
  refine k_aload_n hC (pc := 83) dX12_number_83 0 rfl ?_
  refine gf_X12_25 hC (pc := 84)  fl_RX12_223 dX12_number_84 ?_
  refine k_iload hC (pc := 87) dX12_number_87 3 rfl ?_
  refine k_icmp_eq hC (pc := 89) 102 dX12_number_89 (by decide) (fun c_3 => ?_) (fun c_3 => ?_)
  · have h := h.1 c_3
    refine k_sub [(0, .ref (adr X.G a 6 0)), (4, .int x4)] [0, 3] rfl ?_
    exact b_X12_number_102 hC hR hQ hr _ _ h
  · have h := h.2 c_3
    refine k_iload hC (pc := 92) dX12_number_92 4 rfl ?_
    refine k_iload_n hC (pc := 94) dX12_number_94 1 rfl ?_
    refine k_iload_n hC (pc := 95) dX12_number_95 2 rfl ?_
    refine k_ci (rn_S hC (pc := 96) (As := [.int x5, .int x2, .int x3]) (rest := []) ca_X12_within ml_RX12_186 sm_X12_within (ct_X12_within x5 x2 x3 h) (by rw [hR]; exact ⟨rfl, rfl, by decide, by decide⟩) rfl (Nat.le_of_ble_eq_true rfl) dX12_number_96 ⟨by rw [hR]; decide, by rw [hR]; decide⟩) (fun r_6 s_5 h => ?_)
    refine k_if_ne hC (pc := 99) 110 dX12_number_99 (by decide) (fun c_7 => ?_) (fun c_7 => ?_)
    · have h := h.1 c_7
      refine k_iload hC (pc := 110) dX12_number_110 4 rfl ?_
      exact k_iret hC (pc := 112) hQ hr dX12_number_112 h
    · have h := h.2 c_7
      refine k_sub [(0, .ref (adr X.G a 6 0)), (4, .int x4)] [0, 3] rfl ?_
      exact b_X12_number_102 hC hR hQ hr _ _ h
set_option maxHeartbeats 4000000 in
theorem b_X12_number_9 {X : Kx} {a : Ax} {N : Nat} {post : Int32 → Sx → Prop}  (hC : Cx X cX12_number 6 RX12) (hR : X.R = { frames := 1, cells := 0, slots := 0, locals := 22 }) (hQ : X.Q = MQ X.below (Qi X.G a post) X.av X.s 0 0 (bs_ X.G)) (hr : X.meth.sig.returnType = (some .int))   : ∀ (n : Nat) (s : Sx) (x1 : Int32) (x2 : Int32) (x3 : Int32) (x4 : Int32) (x5 : Int32), w_X12_number_9 N post  n s x1 x2 x3 x4 x5 → wk X a s 6 9 [(0, .ref (adr X.G a 6 0)), (1, .int x1), (2, .int x2), (3, .int x3), (4, .int x4), (5, .int x5)] [] 0 0 := by
  intro n
  induction n with
  | zero => intro s x1 x2 x3 x4 x5 h; exact h.elim
  | succ n ih =>
    intro s x1 x2 x3 x4 x5 h
    unfold w_X12_number_9 at h
    refine k_aload_n hC (pc := 9) dX12_number_9 0 rfl ?_
    refine gf_X12_25 hC (pc := 10)  fl_RX12_223 dX12_number_10 ?_
    refine k_aload_n hC (pc := 13) dX12_number_13 0 rfl ?_
    refine gf_X12_26 hC (pc := 14)  fl_RX12_226 dX12_number_14 ?_
    refine k_icmp_ge hC (pc := 17) 83 dX12_number_17 (by decide) (fun c_2 => ?_) (fun c_2 => ?_)
    · have h := h.1 c_2
      refine k_sub [(0, .ref (adr X.G a 6 0)), (2, .int x2), (3, .int x3), (4, .int x4), (5, .int x5)] [0, 2, 3, 4, 5] rfl ?_
      exact b_X12_number_83 hC hR hQ hr _ _ _ _ _ h
    · have h := h.2 c_2
      refine k_aload_n hC (pc := 20) dX12_number_20 0 rfl ?_
      refine gf_X12_25 hC (pc := 21)  fl_RX12_223 dX12_number_21 ?_
      refine k_iload hC (pc := 24) dX12_number_24 4 rfl ?_
      refine k_iload_n hC (pc := 26) dX12_number_26 1 rfl ?_
      refine k_iadd hC (pc := 27) dX12_number_27 ?_
      refine k_icmp_ge hC (pc := 28) 83 dX12_number_28 (by decide) (fun c_8 => ?_) (fun c_8 => ?_)
      · have h := h.1 c_8
        refine k_sub [(0, .ref (adr X.G a 6 0)), (2, .int x2), (3, .int x3), (4, .int x4), (5, .int x5)] [0, 2, 3, 4, 5] rfl ?_
        exact b_X12_number_83 hC hR hQ hr _ _ _ _ _ h
      · have h := h.2 c_8
        refine k_aload_n hC (pc := 31) dX12_number_31 0 rfl ?_
        refine gf_X12_4 hC (pc := 32)  fl_RX12_16 dX12_number_32 ?_
        refine k_aload_n hC (pc := 35) dX12_number_35 0 rfl ?_
        refine gf_X12_25 hC (pc := 36)  fl_RX12_223 dX12_number_36 ?_
        obtain ⟨c_9, h⟩ := h
        refine r_iald hC (pc := 39) ra5_4 c_9 dX12_number_39 ?_
        refine k_bipush hC (pc := 40) (v := 48) dX12_number_40 bp_48 ?_
        refine k_bipush hC (pc := 42) (v := 57) dX12_number_42 bp_57 ?_
        refine k_ci (rn_S hC (pc := 44) (As := [.int (s.1 5 4 (s.1 6 0 25).toNatClampNeg), .int 48, .int 57]) (rest := []) ca_X12_within ml_RX12_186 sm_X12_within (ct_X12_within (s.1 5 4 (s.1 6 0 25).toNatClampNeg) 48 57 h) (by rw [hR]; exact ⟨rfl, rfl, by decide, by decide⟩) rfl (Nat.le_of_ble_eq_true rfl) dX12_number_44 ⟨by rw [hR]; decide, by rw [hR]; decide⟩) (fun r_11 s_10 h => ?_)
        refine k_if_eq hC (pc := 47) 83 dX12_number_47 (by decide) (fun c_12 => ?_) (fun c_12 => ?_)
        · have h := h.1 c_12
          refine k_sub [(0, .ref (adr X.G a 6 0)), (2, .int x2), (3, .int x3), (4, .int x4), (5, .int x5)] [0, 2, 3, 4, 5] rfl ?_
          exact b_X12_number_83 hC hR hQ hr _ _ _ _ _ h
        · have h := h.2 c_12
          refine k_bipush hC (pc := 50) (v := 10) dX12_number_50 bp_10 ?_
          refine k_iload hC (pc := 52) dX12_number_52 5 rfl ?_
          refine k_imul hC (pc := 54) dX12_number_54 ?_
          refine k_aload_n hC (pc := 55) dX12_number_55 0 rfl ?_
          refine gf_X12_4 hC (pc := 56)  fl_RX12_16 dX12_number_56 ?_
          refine k_aload_n hC (pc := 59) dX12_number_59 0 rfl ?_
          refine gf_X12_25 hC (pc := 60)  fl_RX12_223 dX12_number_60 ?_
          obtain ⟨c_13, h⟩ := h
          refine r_iald hC (pc := 63) ra5_4 c_13 dX12_number_63 ?_
          refine k_iadd hC (pc := 64) dX12_number_64 ?_
          refine k_bipush hC (pc := 65) (v := 48) dX12_number_65 bp_48 ?_
          refine k_isub hC (pc := 67) dX12_number_67 ?_
          refine k_topi (fun x_14 h_x_14 => ?_)
          have h := h x_14 h_x_14
          refine k_istore hC (pc := 68) dX12_number_68 [(5, .int x_14), (0, .ref (adr X.G a 6 0)), (1, .int x1), (2, .int x2), (3, .int x3), (4, .int x4)] (by decide) rfl ?_
          refine k_aload_n hC (pc := 70) dX12_number_70 1 rfl ?_
          refine k_dup hC (pc := 71) dX12_number_71 rfl ?_
          refine gf_X12_25 hC (pc := 72)  fl_RX12_223 dX12_number_72 ?_
          refine k_iconst hC (pc := 75) (v := 1) dX12_number_75 ic_1 ?_
          refine k_iadd hC (pc := 76) dX12_number_76 ?_
          refine pf_X12_25 hC (pc := 77)  fl_RX12_223 dX12_number_77 (fun s_15 h_s_15 => ?_)
          have h := h s_15 h_s_15
          refine k_goto hC (pc := 80) 9 dX12_number_80 (by decide) ?_
          refine k_sub [(0, .ref (adr X.G a 6 0)), (1, .int x1), (2, .int x2), (3, .int x3), (4, .int x4), (5, .int x_14)] [1, 2, 3, 4, 5, 0] rfl ?_
          exact ih _ _ _ _ _ _ h
set_option maxHeartbeats 4000000 in
theorem b_X12_number {X : Kx} {a : Ax} {N : Nat} {post : Int32 → Sx → Prop} (hC : Cx X cX12_number 6 RX12) (hR : X.R = { frames := 1, cells := 0, slots := 0, locals := 22 }) (hQ : X.Q = MQ X.below (Qi X.G a post) X.av X.s 0 0 (bs_ X.G)) (hr : X.meth.sig.returnType = (some .int)) (hn : X.meth.name = "number") (s : Sx) (x1 : Int32) (x2 : Int32) (x3 : Int32) (h : w_X12_number N x1 x2 x3 s post) : wk X a s 6 0 [(0, .ref (adr X.G a 6 0)), (1, .int x1), (2, .int x2), (3, .int x3)] [] 0 0 := by
  unfold w_X12_number at h
  refine k_aload_n hC (pc := 0) dX12_number_0 0 rfl ?_
  refine gf_X12_25 hC (pc := 1)  fl_RX12_223 dX12_number_1 ?_
  refine k_topi (fun x_1 h_x_1 => ?_)
  have h := h x_1 h_x_1
  refine k_istore hC (pc := 4) dX12_number_4 [(4, .int x_1), (0, .ref (adr X.G a 6 0)), (1, .int x1), (2, .int x2), (3, .int x3)] (by decide) rfl ?_
  refine k_iconst hC (pc := 6) (v := 0) dX12_number_6 ic_0 ?_
  refine k_istore hC (pc := 7) dX12_number_7 [(5, .int 0), (4, .int x_1), (0, .ref (adr X.G a 6 0)), (1, .int x1), (2, .int x2), (3, .int x3)] (by decide) rfl ?_
  refine k_sub [(0, .ref (adr X.G a 6 0)), (1, .int x1), (2, .int x2), (3, .int x3), (4, .int x_1), (5, .int 0)] [2, 3, 4, 5, 1, 0] rfl ?_
  exact b_X12_number_9 hC hR hQ hr N _ _ _ _ _ _ h
theorem ct_X12_number {l : Launch} {G : Gx} {a : Ax} {s : Sx} {N : Nat} {post : Int32 → Sx → Prop} (x1 : Int32) (x2 : Int32) (x3 : Int32) (h : w_X12_number N x1 x2 x3 s post) : Met l yX12_number (Cond.code yX12_number cX12_number 6 (some .int) :: gw) { frames := 1, cells := 0, slots := 0, locals := 22 } (va_Pc [.ref (adr G a 6 0), .int x1, .int x2, .int x3] (fun U => FU G a s U)) (Qi G a post) 0 0 (bs_ G) := met_of (plainFor_of_name (by decide)) (Nat.le_of_ble_eq_true rfl) rfl (fun X hC hl hR hQ hr hG hn => by subst hG; exact b_X12_number hC hR hQ hr hn s x1 x2 x3 h)
theorem ca_X12_number : Ca yX12_number cX12_number 6 (some .int) 3 := ⟨cd_X12_number, ii_RX12, by decide, by decide, by decide +kernel⟩
def w_X12_reads_311 (N : Nat) (post : Int32 → Sx → Prop) (s : Sx) : Prop := ∀ s_61, s_61 = setI s 6 0 27 (s.1 6 0 25) → post 0 s_61
def w_X12_reads_273 (N : Nat) (post : Int32 → Sx → Prop) (K241 : Sx → Int32 → Prop) (s : Sx) (z0 : Int32) : Prop := w_X12_within N z0 0 9 s (fun r_59 s_58 => (r_59 = 0 → w_X12_reads_311 N post s_58) ∧ (¬ (r_59 = 0) → w_X12_isCamp N z0 s_58 (fun r_63 s_62 => (r_63 = 0 → w_X12_reads_311 N post s_62) ∧ (¬ (r_63 = 0) → vp_in 12 13 ∧ (¬ (((s_62.1 5 22 (12 : Int32).toNatClampNeg) >>> (z0 &&& 31)) &&& 1) = 1 → vp_in 12 13 ∧ vp_in 12 13 ∧ ∀ s_69, s_69 = setI s_62 5 22 (12 : Int32).toNatClampNeg ((s_62.1 5 22 (12 : Int32).toNatClampNeg) ||| (1 <<< (z0 &&& 31))) → ∀ s_70, s_70 = setI s_69 6 0 25 ((s_69.1 6 0 25) + 1) → ((s_70.1 6 0 26) ≤ (s_70.1 6 0 25) → K241 s_70 0) ∧ (¬ ((s_70.1 6 0 26) ≤ (s_70.1 6 0 25)) → K241 s_70 1)) ∧ (¬ (¬ (((s_62.1 5 22 (12 : Int32).toNatClampNeg) >>> (z0 &&& 31)) &&& 1) = 1) → w_X12_reads_311 N post s_62)))))
def w_X12_reads_241 (N : Nat) (post : Int32 → Sx → Prop) : Nat → Sx → Int32 → Prop
  | 0, _, _ => False
  | n + 1, s, x3 => (x3 = 0 → post 1 s) ∧ (¬ (x3 = 0) → ((s.1 6 0 26) ≤ (s.1 6 0 25) → w_X12_reads_273 N post (w_X12_reads_241 N post n) s ((-9))) ∧ (¬ ((s.1 6 0 26) ≤ (s.1 6 0 25)) → vp_in (s.1 6 0 25) 240 ∧ w_X12_reads_273 N post (w_X12_reads_241 N post n) s ((s.1 5 4 (s.1 6 0 25).toNatClampNeg) - 48)))
def w_X12_reads (N : Nat) (x1 : Int32) (x2 : Int32) (s : Sx) (post : Int32 → Sx → Prop) : Prop := ∀ s_1, s_1 = setI s 6 0 25 x1 → ∀ s_2, s_2 = setI s_1 6 0 26 (x1 + x2) → w_X12_isSign N 111 s_2 (fun r_4 s_3 => (¬ r_4 = 0 → w_X12_number N 1 0 4 s_3 (fun r_7 s_6 => vp_in 12 13 ∧ ∀ s_9, s_9 = setI s_6 5 17 (12 : Int32).toNatClampNeg r_7 → vp_in 12 13 ∧ ((s_9.1 5 17 (12 : Int32).toNatClampNeg) < 0 → post 0 s_9) ∧ (¬ ((s_9.1 5 17 (12 : Int32).toNatClampNeg) < 0) → w_X12_isSign N 104 s_9 (fun r_13 s_12 => (¬ r_13 = 0 → w_X12_number N 2 0 23 s_12 (fun r_16 s_15 => vp_in 12 13 ∧ ∀ s_18, s_18 = setI s_15 5 18 (12 : Int32).toNatClampNeg r_16 → vp_in 12 13 ∧ ((s_18.1 5 18 (12 : Int32).toNatClampNeg) < 0 → post 0 s_18) ∧ (¬ ((s_18.1 5 18 (12 : Int32).toNatClampNeg) < 0) → w_X12_isSign N 45 s_18 (fun r_22 s_21 => (¬ r_22 = 0 → vp_in 12 13 ∧ w_X12_number N 2 (s_21.1 5 18 (12 : Int32).toNatClampNeg) 23 s_21 (fun r_26 s_25 => vp_in 12 13 ∧ ∀ s_28, s_28 = setI s_25 5 19 (12 : Int32).toNatClampNeg r_26 → vp_in 12 13 ∧ ((s_28.1 5 19 (12 : Int32).toNatClampNeg) < 0 → post 0 s_28) ∧ (¬ ((s_28.1 5 19 (12 : Int32).toNatClampNeg) < 0) → w_X12_isSign N 64 s_28 (fun r_32 s_31 => (¬ r_32 = 0 → w_X12_number N 3 0 399 s_31 (fun r_35 s_34 => vp_in 12 13 ∧ ∀ s_37, s_37 = setI s_34 5 20 (12 : Int32).toNatClampNeg r_35 → vp_in 12 13 ∧ ((s_37.1 5 20 (12 : Int32).toNatClampNeg) < 0 → post 0 s_37) ∧ (¬ ((s_37.1 5 20 (12 : Int32).toNatClampNeg) < 0) → w_X12_isSign N 45 s_37 (fun r_41 s_40 => (¬ r_41 = 0 → vp_in 12 13 ∧ w_X12_number N 3 (s_40.1 5 20 (12 : Int32).toNatClampNeg) 399 s_40 (fun r_45 s_44 => vp_in 12 13 ∧ ∀ s_47, s_47 = setI s_44 5 21 (12 : Int32).toNatClampNeg r_45 → vp_in 12 13 ∧ (0 ≤ (s_47.1 5 21 (12 : Int32).toNatClampNeg) → vp_in 12 13 ∧ ∀ s_51, s_51 = setI s_47 5 22 (12 : Int32).toNatClampNeg 0 → (¬ (s_51.1 6 0 25) = (s_51.1 6 0 26) → w_X12_isSign N 33 s_51 (fun r_54 s_53 => (¬ r_54 = 0 → w_X12_reads_241 N post N s_53 1) ∧ (¬ (¬ r_54 = 0) → post 0 s_53))) ∧ (¬ (¬ (s_51.1 6 0 25) = (s_51.1 6 0 26)) → post 1 s_51)) ∧ (¬ (0 ≤ (s_47.1 5 21 (12 : Int32).toNatClampNeg)) → post 0 s_47))) ∧ (¬ (¬ r_41 = 0) → post 0 s_40))))) ∧ (¬ (¬ r_32 = 0) → post 0 s_31))))) ∧ (¬ (¬ r_22 = 0) → post 0 s_21))))) ∧ (¬ (¬ r_13 = 0) → post 0 s_12))))) ∧ (¬ (¬ r_4 = 0) → post 0 s_3))
set_option maxHeartbeats 4000000 in
theorem b_X12_reads_311 {X : Kx} {a : Ax} {N : Nat} {post : Int32 → Sx → Prop}  (hC : Cx X cX12_reads 5 RX12) (hR : X.R = { frames := 2, cells := 0, slots := 0, locals := 47 }) (hQ : X.Q = MQ X.below (Qi X.G a post) X.av X.s 0 0 (bs_ X.G)) (hr : X.meth.sig.returnType = (some .boolean))   (s : Sx)  (h : w_X12_reads_311 N post  s ) : wk X a s 5 311 [(0, .ref (adr X.G a 6 0))] [] 0 0 := by
  unfold w_X12_reads_311 at h
  refine k_aload_n hC (pc := 311) dX12_reads_311 0 rfl ?_
  refine k_aload_n hC (pc := 312) dX12_reads_312 0 rfl ?_
  refine gf_X12_25 hC (pc := 313)  fl_RX12_223 dX12_reads_313 ?_
  refine pf_X12_27 hC (pc := 316)  fl_RX12_229 dX12_reads_316 (fun s_61 h_s_61 => ?_)
  have h := h s_61 h_s_61
  refine k_iconst hC (pc := 319) (v := 0) dX12_reads_319 ic_0 ?_
  exact k_zret hC (pc := 320) hQ hr dX12_reads_320 (Or.inl rfl) h
set_option maxHeartbeats 4000000 in
theorem b_X12_reads_273 {X : Kx} {a : Ax} {N : Nat} {post : Int32 → Sx → Prop} {K241 : Sx → Int32 → Prop}  (hC : Cx X cX12_reads 5 RX12) (hR : X.R = { frames := 2, cells := 0, slots := 0, locals := 47 }) (hQ : X.Q = MQ X.below (Qi X.G a post) X.av X.s 0 0 (bs_ X.G)) (hr : X.meth.sig.returnType = (some .boolean))  (hK241 : ∀ (s : Sx) (x3 : Int32), K241 s x3 → wk X a s 5 241 [(0, .ref (adr X.G a 6 0)), (3, .int x3)] [] 0 0) (s : Sx) (z0 : Int32) (h : w_X12_reads_273 N post K241 s z0) : wk X a s 5 273 [(0, .ref (adr X.G a 6 0))] [.int z0] 0 0 := by
  unfold w_X12_reads_273 at h
  refine k_istore hC (pc := 273) dX12_reads_273 [(4, .int z0), (0, .ref (adr X.G a 6 0))] (by decide) rfl ?_
  refine k_iload hC (pc := 275) dX12_reads_275 0 rfl ?_
  refine k_iconst hC (pc := 277) (v := 0) dX12_reads_277 ic_0 ?_
  refine k_bipush hC (pc := 278) (v := 9) dX12_reads_278 bp_9 ?_
  refine k_ci (rn_S hC (pc := 280) (As := [.int z0, .int 0, .int 9]) (rest := []) ca_X12_within ml_RX12_186 sm_X12_within (ct_X12_within z0 0 9 h) (by rw [hR]; exact ⟨rfl, rfl, by decide, by decide⟩) rfl (Nat.le_of_ble_eq_true rfl) dX12_reads_280 ⟨by rw [hR]; decide, by rw [hR]; decide⟩) (fun r_59 s_58 h => ?_)
  refine k_if_eq hC (pc := 283) 311 dX12_reads_283 (by decide) (fun c_60 => ?_) (fun c_60 => ?_)
  · have h := h.1 c_60
    refine k_sub [(0, .ref (adr X.G a 6 0))] [1] rfl ?_
    exact b_X12_reads_311 hC hR hQ hr _ h
  · have h := h.2 c_60
    refine k_aload_n hC (pc := 286) dX12_reads_286 1 rfl ?_
    refine k_iload hC (pc := 287) dX12_reads_287 0 rfl ?_
    refine k_ci (rn_V hC (pc := 289) (As := [.int z0]) (rest := []) ca_X12_isCamp ml_RX12_210 im_X12_isCamp se_X12_isCamp (fx_in f6_0) (ob6_0 _ _ _ _ _) rfl rfl (ct_X12_isCamp z0 h) (by rw [hR]; exact ⟨rfl, rfl, by decide, by decide⟩) rfl (Nat.le_of_ble_eq_true rfl) dX12_reads_289 ⟨by rw [hR]; decide, by rw [hR]; decide⟩) (fun r_63 s_62 h => ?_)
    refine k_if_eq hC (pc := 292) 311 dX12_reads_292 (by decide) (fun c_64 => ?_) (fun c_64 => ?_)
    · have h := h.1 c_64
      refine k_sub [(0, .ref (adr X.G a 6 0))] [1] rfl ?_
      exact b_X12_reads_311 hC hR hQ hr _ h
    · have h := h.2 c_64
      refine k_aload_n hC (pc := 295) dX12_reads_295 1 rfl ?_
      refine gf_X12_22 hC (pc := 296)  fl_RX12_58 dX12_reads_296 ?_
      refine k_bipush hC (pc := 299) (v := 12) dX12_reads_299 bp_12 ?_
      obtain ⟨c_65, h⟩ := h
      refine r_iald hC (pc := 301) ra5_22 c_65 dX12_reads_301 ?_
      refine k_iload hC (pc := 302) dX12_reads_302 0 rfl ?_
      refine k_ishr hC (pc := 304) dX12_reads_304 ?_
      refine k_iconst hC (pc := 305) (v := 1) dX12_reads_305 ic_1 ?_
      refine k_iand hC (pc := 306) dX12_reads_306 ?_
      refine k_iconst hC (pc := 307) (v := 1) dX12_reads_307 ic_1 ?_
      refine k_icmp_ne hC (pc := 308) 321 dX12_reads_308 (by decide) (fun c_66 => ?_) (fun c_66 => ?_)
      · have h := h.1 c_66
        refine k_aload_n hC (pc := 321) dX12_reads_321 1 rfl ?_
        refine gf_X12_22 hC (pc := 322)  fl_RX12_58 dX12_reads_322 ?_
        refine k_bipush hC (pc := 325) (v := 12) dX12_reads_325 bp_12 ?_
        refine k_dup2 hC (pc := 327) dX12_reads_327 rfl rfl ?_
        obtain ⟨c_67, h⟩ := h
        refine r_iald hC (pc := 328) ra5_22 c_67 dX12_reads_328 ?_
        refine k_iconst hC (pc := 329) (v := 1) dX12_reads_329 ic_1 ?_
        refine k_iload hC (pc := 330) dX12_reads_330 0 rfl ?_
        refine k_ishl hC (pc := 332) dX12_reads_332 ?_
        refine k_ior hC (pc := 333) dX12_reads_333 ?_
        obtain ⟨c_68, h⟩ := h
        refine r_iast hC (pc := 334) ra5_22 c_68 dX12_reads_334 (fun s_69 h_s_69 => ?_)
        have h := h s_69 h_s_69
        refine k_aload_n hC (pc := 335) dX12_reads_335 1 rfl ?_
        refine k_dup hC (pc := 336) dX12_reads_336 rfl ?_
        refine gf_X12_25 hC (pc := 337)  fl_RX12_223 dX12_reads_337 ?_
        refine k_iconst hC (pc := 340) (v := 1) dX12_reads_340 ic_1 ?_
        refine k_iadd hC (pc := 341) dX12_reads_341 ?_
        refine pf_X12_25 hC (pc := 342)  fl_RX12_223 dX12_reads_342 (fun s_70 h_s_70 => ?_)
        have h := h s_70 h_s_70
        refine k_aload_n hC (pc := 345) dX12_reads_345 1 rfl ?_
        refine gf_X12_25 hC (pc := 346)  fl_RX12_223 dX12_reads_346 ?_
        refine k_aload_n hC (pc := 349) dX12_reads_349 1 rfl ?_
        refine gf_X12_26 hC (pc := 350)  fl_RX12_226 dX12_reads_350 ?_
        refine k_icmp_ge hC (pc := 353) 360 dX12_reads_353 (by decide) (fun c_71 => ?_) (fun c_71 => ?_)
        · have h := h.1 c_71
          refine k_iconst hC (pc := 360) (v := 0) dX12_reads_360 ic_0 ?_
          refine k_istore_n hC (pc := 361) dX12_reads_361 [(3, .int 0), (4, .int z0), (0, .ref (adr X.G a 6 0))] (by decide) rfl ?_
          refine k_goto hC (pc := 362) 241 dX12_reads_362 (by decide) ?_
          refine k_sub [(0, .ref (adr X.G a 6 0)), (3, .int 0)] [2, 0] rfl ?_
          exact hK241 _ _ h
        · have h := h.2 c_71
          refine k_iconst hC (pc := 356) (v := 1) dX12_reads_356 ic_1 ?_
          refine k_goto hC (pc := 357) 361 dX12_reads_357 (by decide) ?_
          refine k_istore_n hC (pc := 361) dX12_reads_361 [(3, .int 1), (4, .int z0), (0, .ref (adr X.G a 6 0))] (by decide) rfl ?_
          refine k_goto hC (pc := 362) 241 dX12_reads_362 (by decide) ?_
          refine k_sub [(0, .ref (adr X.G a 6 0)), (3, .int 1)] [2, 0] rfl ?_
          exact hK241 _ _ h
      · have h := h.2 c_66
        refine k_sub [(0, .ref (adr X.G a 6 0))] [1] rfl ?_
        exact b_X12_reads_311 hC hR hQ hr _ h
set_option maxHeartbeats 4000000 in
theorem b_X12_reads_241 {X : Kx} {a : Ax} {N : Nat} {post : Int32 → Sx → Prop}  (hC : Cx X cX12_reads 5 RX12) (hR : X.R = { frames := 2, cells := 0, slots := 0, locals := 47 }) (hQ : X.Q = MQ X.below (Qi X.G a post) X.av X.s 0 0 (bs_ X.G)) (hr : X.meth.sig.returnType = (some .boolean))   : ∀ (n : Nat) (s : Sx) (x3 : Int32), w_X12_reads_241 N post  n s x3 → wk X a s 5 241 [(0, .ref (adr X.G a 6 0)), (3, .int x3)] [] 0 0 := by
  intro n
  induction n with
  | zero => intro s x3 h; exact h.elim
  | succ n ih =>
    intro s x3 h
    unfold w_X12_reads_241 at h
    refine k_iload_n hC (pc := 241) dX12_reads_241 1 rfl ?_
    refine k_if_eq hC (pc := 242) 365 dX12_reads_242 (by decide) (fun c_56 => ?_) (fun c_56 => ?_)
    · have h := h.1 c_56
      refine k_iconst hC (pc := 365) (v := 1) dX12_reads_365 ic_1 ?_
      exact k_zret hC (pc := 366) hQ hr dX12_reads_366 (Or.inr rfl) h
    · have h := h.2 c_56
      refine k_aload_n hC (pc := 245) dX12_reads_245 0 rfl ?_
      refine gf_X12_25 hC (pc := 246)  fl_RX12_223 dX12_reads_246 ?_
      refine k_aload_n hC (pc := 249) dX12_reads_249 0 rfl ?_
      refine gf_X12_26 hC (pc := 250)  fl_RX12_226 dX12_reads_250 ?_
      refine k_icmp_ge hC (pc := 253) 271 dX12_reads_253 (by decide) (fun c_57 => ?_) (fun c_57 => ?_)
      · have h := h.1 c_57
        refine k_bipush hC (pc := 271) (v := (-9)) dX12_reads_271 bp_m9 ?_
        refine k_sub [(0, .ref (adr X.G a 6 0))] [0] rfl ?_
        exact b_X12_reads_273 hC hR hQ hr ih _ _ h
      · have h := h.2 c_57
        refine k_aload_n hC (pc := 256) dX12_reads_256 0 rfl ?_
        refine gf_X12_4 hC (pc := 257)  fl_RX12_16 dX12_reads_257 ?_
        refine k_aload_n hC (pc := 260) dX12_reads_260 0 rfl ?_
        refine gf_X12_25 hC (pc := 261)  fl_RX12_223 dX12_reads_261 ?_
        obtain ⟨c_72, h⟩ := h
        refine r_iald hC (pc := 264) ra5_4 c_72 dX12_reads_264 ?_
        refine k_bipush hC (pc := 265) (v := 48) dX12_reads_265 bp_48 ?_
        refine k_isub hC (pc := 267) dX12_reads_267 ?_
        refine k_goto hC (pc := 268) 273 dX12_reads_268 (by decide) ?_
        refine k_sub [(0, .ref (adr X.G a 6 0))] [0] rfl ?_
        exact b_X12_reads_273 hC hR hQ hr ih _ _ h
set_option maxHeartbeats 4000000 in
theorem b_X12_reads {X : Kx} {a : Ax} {N : Nat} {post : Int32 → Sx → Prop} (hC : Cx X cX12_reads 5 RX12) (hR : X.R = { frames := 2, cells := 0, slots := 0, locals := 47 }) (hQ : X.Q = MQ X.below (Qi X.G a post) X.av X.s 0 0 (bs_ X.G)) (hr : X.meth.sig.returnType = (some .boolean)) (hn : X.meth.name = "reads") (s : Sx) (x1 : Int32) (x2 : Int32) (h : w_X12_reads N x1 x2 s post) : wk X a s 5 0 [(0, .ref (adr X.G a 6 0)), (1, .int x1), (2, .int x2)] [] 0 0 := by
  unfold w_X12_reads at h
  refine k_aload_n hC (pc := 0) dX12_reads_0 0 rfl ?_
  refine k_iload_n hC (pc := 1) dX12_reads_1 1 rfl ?_
  refine pf_X12_25 hC (pc := 2)  fl_RX12_223 dX12_reads_2 (fun s_1 h_s_1 => ?_)
  have h := h s_1 h_s_1
  refine k_aload_n hC (pc := 5) dX12_reads_5 0 rfl ?_
  refine k_iload_n hC (pc := 6) dX12_reads_6 1 rfl ?_
  refine k_iload_n hC (pc := 7) dX12_reads_7 2 rfl ?_
  refine k_iadd hC (pc := 8) dX12_reads_8 ?_
  refine pf_X12_26 hC (pc := 9)  fl_RX12_226 dX12_reads_9 (fun s_2 h_s_2 => ?_)
  have h := h s_2 h_s_2
  refine k_aload_n hC (pc := 12) dX12_reads_12 0 rfl ?_
  refine k_bipush hC (pc := 13) (v := 111) dX12_reads_13 bp_111 ?_
  refine k_ci (rn_V hC (pc := 15) (As := [.int 111]) (rest := []) ca_X12_isSign ml_RX12_232 im_X12_isSign se_X12_isSign (fx_in f6_0) (ob6_0 _ _ _ _ _) rfl rfl (ct_X12_isSign 111 h) (by rw [hR]; exact ⟨rfl, rfl, by decide, by decide⟩) rfl (Nat.le_of_ble_eq_true rfl) dX12_reads_15 ⟨by rw [hR]; decide, by rw [hR]; decide⟩) (fun r_4 s_3 h => ?_)
  refine k_if_ne hC (pc := 18) 23 dX12_reads_18 (by decide) (fun c_5 => ?_) (fun c_5 => ?_)
  · have h := h.1 c_5
    refine k_aload_n hC (pc := 23) dX12_reads_23 0 rfl ?_
    refine gf_X12_17 hC (pc := 24)  fl_RX12_43 dX12_reads_24 ?_
    refine k_bipush hC (pc := 27) (v := 12) dX12_reads_27 bp_12 ?_
    refine k_aload_n hC (pc := 29) dX12_reads_29 0 rfl ?_
    refine k_iconst hC (pc := 30) (v := 1) dX12_reads_30 ic_1 ?_
    refine k_iconst hC (pc := 31) (v := 0) dX12_reads_31 ic_0 ?_
    refine k_iconst hC (pc := 32) (v := 4) dX12_reads_32 ic_4 ?_
    refine k_ci (rn_V hC (pc := 33) (As := [.int 1, .int 0, .int 4]) (rest := [.int 12, .ref (adr X.G a 5 17)]) ca_X12_number ml_RX12_235 im_X12_number se_X12_number (fx_in f6_0) (ob6_0 _ _ _ _ _) rfl rfl (ct_X12_number 1 0 4 h) (by rw [hR]; exact ⟨rfl, rfl, by decide, by decide⟩) rfl (Nat.le_of_ble_eq_true rfl) dX12_reads_33 ⟨by rw [hR]; decide, by rw [hR]; decide⟩) (fun r_7 s_6 h => ?_)
    obtain ⟨c_8, h⟩ := h
    refine r_iast hC (pc := 36) ra5_17 c_8 dX12_reads_36 (fun s_9 h_s_9 => ?_)
    have h := h s_9 h_s_9
    refine k_aload_n hC (pc := 37) dX12_reads_37 0 rfl ?_
    refine gf_X12_17 hC (pc := 38)  fl_RX12_43 dX12_reads_38 ?_
    refine k_bipush hC (pc := 41) (v := 12) dX12_reads_41 bp_12 ?_
    obtain ⟨c_10, h⟩ := h
    refine r_iald hC (pc := 43) ra5_17 c_10 dX12_reads_43 ?_
    refine k_if_lt hC (pc := 44) 56 dX12_reads_44 (by decide) (fun c_11 => ?_) (fun c_11 => ?_)
    · have h := h.1 c_11
      refine k_iconst hC (pc := 56) (v := 0) dX12_reads_56 ic_0 ?_
      exact k_zret hC (pc := 57) hQ hr dX12_reads_57 (Or.inl rfl) h
    · have h := h.2 c_11
      refine k_aload_n hC (pc := 47) dX12_reads_47 0 rfl ?_
      refine k_bipush hC (pc := 48) (v := 104) dX12_reads_48 bp_104 ?_
      refine k_ci (rn_V hC (pc := 50) (As := [.int 104]) (rest := []) ca_X12_isSign ml_RX12_232 im_X12_isSign se_X12_isSign (fx_in f6_0) (ob6_0 _ _ _ _ _) rfl rfl (ct_X12_isSign 104 h) (by rw [hR]; exact ⟨rfl, rfl, by decide, by decide⟩) rfl (Nat.le_of_ble_eq_true rfl) dX12_reads_50 ⟨by rw [hR]; decide, by rw [hR]; decide⟩) (fun r_13 s_12 h => ?_)
      refine k_if_ne hC (pc := 53) 58 dX12_reads_53 (by decide) (fun c_14 => ?_) (fun c_14 => ?_)
      · have h := h.1 c_14
        refine k_aload_n hC (pc := 58) dX12_reads_58 0 rfl ?_
        refine gf_X12_18 hC (pc := 59)  fl_RX12_46 dX12_reads_59 ?_
        refine k_bipush hC (pc := 62) (v := 12) dX12_reads_62 bp_12 ?_
        refine k_aload_n hC (pc := 64) dX12_reads_64 0 rfl ?_
        refine k_iconst hC (pc := 65) (v := 2) dX12_reads_65 ic_2 ?_
        refine k_iconst hC (pc := 66) (v := 0) dX12_reads_66 ic_0 ?_
        refine k_bipush hC (pc := 67) (v := 23) dX12_reads_67 bp_23 ?_
        refine k_ci (rn_V hC (pc := 69) (As := [.int 2, .int 0, .int 23]) (rest := [.int 12, .ref (adr X.G a 5 18)]) ca_X12_number ml_RX12_235 im_X12_number se_X12_number (fx_in f6_0) (ob6_0 _ _ _ _ _) rfl rfl (ct_X12_number 2 0 23 h) (by rw [hR]; exact ⟨rfl, rfl, by decide, by decide⟩) rfl (Nat.le_of_ble_eq_true rfl) dX12_reads_69 ⟨by rw [hR]; decide, by rw [hR]; decide⟩) (fun r_16 s_15 h => ?_)
        obtain ⟨c_17, h⟩ := h
        refine r_iast hC (pc := 72) ra5_18 c_17 dX12_reads_72 (fun s_18 h_s_18 => ?_)
        have h := h s_18 h_s_18
        refine k_aload_n hC (pc := 73) dX12_reads_73 0 rfl ?_
        refine gf_X12_18 hC (pc := 74)  fl_RX12_46 dX12_reads_74 ?_
        refine k_bipush hC (pc := 77) (v := 12) dX12_reads_77 bp_12 ?_
        obtain ⟨c_19, h⟩ := h
        refine r_iald hC (pc := 79) ra5_18 c_19 dX12_reads_79 ?_
        refine k_if_lt hC (pc := 80) 92 dX12_reads_80 (by decide) (fun c_20 => ?_) (fun c_20 => ?_)
        · have h := h.1 c_20
          refine k_iconst hC (pc := 92) (v := 0) dX12_reads_92 ic_0 ?_
          exact k_zret hC (pc := 93) hQ hr dX12_reads_93 (Or.inl rfl) h
        · have h := h.2 c_20
          refine k_aload_n hC (pc := 83) dX12_reads_83 0 rfl ?_
          refine k_bipush hC (pc := 84) (v := 45) dX12_reads_84 bp_45 ?_
          refine k_ci (rn_V hC (pc := 86) (As := [.int 45]) (rest := []) ca_X12_isSign ml_RX12_232 im_X12_isSign se_X12_isSign (fx_in f6_0) (ob6_0 _ _ _ _ _) rfl rfl (ct_X12_isSign 45 h) (by rw [hR]; exact ⟨rfl, rfl, by decide, by decide⟩) rfl (Nat.le_of_ble_eq_true rfl) dX12_reads_86 ⟨by rw [hR]; decide, by rw [hR]; decide⟩) (fun r_22 s_21 h => ?_)
          refine k_if_ne hC (pc := 89) 94 dX12_reads_89 (by decide) (fun c_23 => ?_) (fun c_23 => ?_)
          · have h := h.1 c_23
            refine k_aload_n hC (pc := 94) dX12_reads_94 0 rfl ?_
            refine gf_X12_19 hC (pc := 95)  fl_RX12_49 dX12_reads_95 ?_
            refine k_bipush hC (pc := 98) (v := 12) dX12_reads_98 bp_12 ?_
            refine k_aload_n hC (pc := 100) dX12_reads_100 0 rfl ?_
            refine k_iconst hC (pc := 101) (v := 2) dX12_reads_101 ic_2 ?_
            refine k_aload_n hC (pc := 102) dX12_reads_102 0 rfl ?_
            refine gf_X12_18 hC (pc := 103)  fl_RX12_46 dX12_reads_103 ?_
            refine k_bipush hC (pc := 106) (v := 12) dX12_reads_106 bp_12 ?_
            obtain ⟨c_24, h⟩ := h
            refine r_iald hC (pc := 108) ra5_18 c_24 dX12_reads_108 ?_
            refine k_bipush hC (pc := 109) (v := 23) dX12_reads_109 bp_23 ?_
            refine k_ci (rn_V hC (pc := 111) (As := [.int 2, .int (s_21.1 5 18 (12 : Int32).toNatClampNeg), .int 23]) (rest := [.int 12, .ref (adr X.G a 5 19)]) ca_X12_number ml_RX12_235 im_X12_number se_X12_number (fx_in f6_0) (ob6_0 _ _ _ _ _) rfl rfl (ct_X12_number 2 (s_21.1 5 18 (12 : Int32).toNatClampNeg) 23 h) (by rw [hR]; exact ⟨rfl, rfl, by decide, by decide⟩) rfl (Nat.le_of_ble_eq_true rfl) dX12_reads_111 ⟨by rw [hR]; decide, by rw [hR]; decide⟩) (fun r_26 s_25 h => ?_)
            obtain ⟨c_27, h⟩ := h
            refine r_iast hC (pc := 114) ra5_19 c_27 dX12_reads_114 (fun s_28 h_s_28 => ?_)
            have h := h s_28 h_s_28
            refine k_aload_n hC (pc := 115) dX12_reads_115 0 rfl ?_
            refine gf_X12_19 hC (pc := 116)  fl_RX12_49 dX12_reads_116 ?_
            refine k_bipush hC (pc := 119) (v := 12) dX12_reads_119 bp_12 ?_
            obtain ⟨c_29, h⟩ := h
            refine r_iald hC (pc := 121) ra5_19 c_29 dX12_reads_121 ?_
            refine k_if_lt hC (pc := 122) 134 dX12_reads_122 (by decide) (fun c_30 => ?_) (fun c_30 => ?_)
            · have h := h.1 c_30
              refine k_iconst hC (pc := 134) (v := 0) dX12_reads_134 ic_0 ?_
              exact k_zret hC (pc := 135) hQ hr dX12_reads_135 (Or.inl rfl) h
            · have h := h.2 c_30
              refine k_aload_n hC (pc := 125) dX12_reads_125 0 rfl ?_
              refine k_bipush hC (pc := 126) (v := 64) dX12_reads_126 bp_64 ?_
              refine k_ci (rn_V hC (pc := 128) (As := [.int 64]) (rest := []) ca_X12_isSign ml_RX12_232 im_X12_isSign se_X12_isSign (fx_in f6_0) (ob6_0 _ _ _ _ _) rfl rfl (ct_X12_isSign 64 h) (by rw [hR]; exact ⟨rfl, rfl, by decide, by decide⟩) rfl (Nat.le_of_ble_eq_true rfl) dX12_reads_128 ⟨by rw [hR]; decide, by rw [hR]; decide⟩) (fun r_32 s_31 h => ?_)
              refine k_if_ne hC (pc := 131) 136 dX12_reads_131 (by decide) (fun c_33 => ?_) (fun c_33 => ?_)
              · have h := h.1 c_33
                refine k_aload_n hC (pc := 136) dX12_reads_136 0 rfl ?_
                refine gf_X12_20 hC (pc := 137)  fl_RX12_52 dX12_reads_137 ?_
                refine k_bipush hC (pc := 140) (v := 12) dX12_reads_140 bp_12 ?_
                refine k_aload_n hC (pc := 142) dX12_reads_142 0 rfl ?_
                refine k_iconst hC (pc := 143) (v := 3) dX12_reads_143 ic_3 ?_
                refine k_iconst hC (pc := 144) (v := 0) dX12_reads_144 ic_0 ?_
                refine k_sipush hC (pc := 145) (v := 399) dX12_reads_145 sp_399 ?_
                refine k_ci (rn_V hC (pc := 148) (As := [.int 3, .int 0, .int 399]) (rest := [.int 12, .ref (adr X.G a 5 20)]) ca_X12_number ml_RX12_235 im_X12_number se_X12_number (fx_in f6_0) (ob6_0 _ _ _ _ _) rfl rfl (ct_X12_number 3 0 399 h) (by rw [hR]; exact ⟨rfl, rfl, by decide, by decide⟩) rfl (Nat.le_of_ble_eq_true rfl) dX12_reads_148 ⟨by rw [hR]; decide, by rw [hR]; decide⟩) (fun r_35 s_34 h => ?_)
                obtain ⟨c_36, h⟩ := h
                refine r_iast hC (pc := 151) ra5_20 c_36 dX12_reads_151 (fun s_37 h_s_37 => ?_)
                have h := h s_37 h_s_37
                refine k_aload_n hC (pc := 152) dX12_reads_152 0 rfl ?_
                refine gf_X12_20 hC (pc := 153)  fl_RX12_52 dX12_reads_153 ?_
                refine k_bipush hC (pc := 156) (v := 12) dX12_reads_156 bp_12 ?_
                obtain ⟨c_38, h⟩ := h
                refine r_iald hC (pc := 158) ra5_20 c_38 dX12_reads_158 ?_
                refine k_if_lt hC (pc := 159) 171 dX12_reads_159 (by decide) (fun c_39 => ?_) (fun c_39 => ?_)
                · have h := h.1 c_39
                  refine k_iconst hC (pc := 171) (v := 0) dX12_reads_171 ic_0 ?_
                  exact k_zret hC (pc := 172) hQ hr dX12_reads_172 (Or.inl rfl) h
                · have h := h.2 c_39
                  refine k_aload_n hC (pc := 162) dX12_reads_162 0 rfl ?_
                  refine k_bipush hC (pc := 163) (v := 45) dX12_reads_163 bp_45 ?_
                  refine k_ci (rn_V hC (pc := 165) (As := [.int 45]) (rest := []) ca_X12_isSign ml_RX12_232 im_X12_isSign se_X12_isSign (fx_in f6_0) (ob6_0 _ _ _ _ _) rfl rfl (ct_X12_isSign 45 h) (by rw [hR]; exact ⟨rfl, rfl, by decide, by decide⟩) rfl (Nat.le_of_ble_eq_true rfl) dX12_reads_165 ⟨by rw [hR]; decide, by rw [hR]; decide⟩) (fun r_41 s_40 h => ?_)
                  refine k_if_ne hC (pc := 168) 173 dX12_reads_168 (by decide) (fun c_42 => ?_) (fun c_42 => ?_)
                  · have h := h.1 c_42
                    refine k_aload_n hC (pc := 173) dX12_reads_173 0 rfl ?_
                    refine gf_X12_21 hC (pc := 174)  fl_RX12_55 dX12_reads_174 ?_
                    refine k_bipush hC (pc := 177) (v := 12) dX12_reads_177 bp_12 ?_
                    refine k_aload_n hC (pc := 179) dX12_reads_179 0 rfl ?_
                    refine k_iconst hC (pc := 180) (v := 3) dX12_reads_180 ic_3 ?_
                    refine k_aload_n hC (pc := 181) dX12_reads_181 0 rfl ?_
                    refine gf_X12_20 hC (pc := 182)  fl_RX12_52 dX12_reads_182 ?_
                    refine k_bipush hC (pc := 185) (v := 12) dX12_reads_185 bp_12 ?_
                    obtain ⟨c_43, h⟩ := h
                    refine r_iald hC (pc := 187) ra5_20 c_43 dX12_reads_187 ?_
                    refine k_sipush hC (pc := 188) (v := 399) dX12_reads_188 sp_399 ?_
                    refine k_ci (rn_V hC (pc := 191) (As := [.int 3, .int (s_40.1 5 20 (12 : Int32).toNatClampNeg), .int 399]) (rest := [.int 12, .ref (adr X.G a 5 21)]) ca_X12_number ml_RX12_235 im_X12_number se_X12_number (fx_in f6_0) (ob6_0 _ _ _ _ _) rfl rfl (ct_X12_number 3 (s_40.1 5 20 (12 : Int32).toNatClampNeg) 399 h) (by rw [hR]; exact ⟨rfl, rfl, by decide, by decide⟩) rfl (Nat.le_of_ble_eq_true rfl) dX12_reads_191 ⟨by rw [hR]; decide, by rw [hR]; decide⟩) (fun r_45 s_44 h => ?_)
                    obtain ⟨c_46, h⟩ := h
                    refine r_iast hC (pc := 194) ra5_21 c_46 dX12_reads_194 (fun s_47 h_s_47 => ?_)
                    have h := h s_47 h_s_47
                    refine k_aload_n hC (pc := 195) dX12_reads_195 0 rfl ?_
                    refine gf_X12_21 hC (pc := 196)  fl_RX12_55 dX12_reads_196 ?_
                    refine k_bipush hC (pc := 199) (v := 12) dX12_reads_199 bp_12 ?_
                    obtain ⟨c_48, h⟩ := h
                    refine r_iald hC (pc := 201) ra5_21 c_48 dX12_reads_201 ?_
                    refine k_if_ge hC (pc := 202) 207 dX12_reads_202 (by decide) (fun c_49 => ?_) (fun c_49 => ?_)
                    · have h := h.1 c_49
                      refine k_aload_n hC (pc := 207) dX12_reads_207 0 rfl ?_
                      refine gf_X12_22 hC (pc := 208)  fl_RX12_58 dX12_reads_208 ?_
                      refine k_bipush hC (pc := 211) (v := 12) dX12_reads_211 bp_12 ?_
                      refine k_iconst hC (pc := 213) (v := 0) dX12_reads_213 ic_0 ?_
                      obtain ⟨c_50, h⟩ := h
                      refine r_iast hC (pc := 214) ra5_22 c_50 dX12_reads_214 (fun s_51 h_s_51 => ?_)
                      have h := h s_51 h_s_51
                      refine k_aload_n hC (pc := 215) dX12_reads_215 0 rfl ?_
                      refine gf_X12_25 hC (pc := 216)  fl_RX12_223 dX12_reads_216 ?_
                      refine k_aload_n hC (pc := 219) dX12_reads_219 0 rfl ?_
                      refine gf_X12_26 hC (pc := 220)  fl_RX12_226 dX12_reads_220 ?_
                      refine k_icmp_ne hC (pc := 223) 228 dX12_reads_223 (by decide) (fun c_52 => ?_) (fun c_52 => ?_)
                      · have h := h.1 c_52
                        refine k_aload_n hC (pc := 228) dX12_reads_228 0 rfl ?_
                        refine k_bipush hC (pc := 229) (v := 33) dX12_reads_229 bp_33 ?_
                        refine k_ci (rn_V hC (pc := 231) (As := [.int 33]) (rest := []) ca_X12_isSign ml_RX12_232 im_X12_isSign se_X12_isSign (fx_in f6_0) (ob6_0 _ _ _ _ _) rfl rfl (ct_X12_isSign 33 h) (by rw [hR]; exact ⟨rfl, rfl, by decide, by decide⟩) rfl (Nat.le_of_ble_eq_true rfl) dX12_reads_231 ⟨by rw [hR]; decide, by rw [hR]; decide⟩) (fun r_54 s_53 h => ?_)
                        refine k_if_ne hC (pc := 234) 239 dX12_reads_234 (by decide) (fun c_55 => ?_) (fun c_55 => ?_)
                        · have h := h.1 c_55
                          refine k_iconst hC (pc := 239) (v := 1) dX12_reads_239 ic_1 ?_
                          refine k_istore_n hC (pc := 240) dX12_reads_240 [(3, .int 1), (0, .ref (adr X.G a 6 0)), (1, .int x1), (2, .int x2)] (by decide) rfl ?_
                          refine k_sub [(0, .ref (adr X.G a 6 0)), (3, .int 1)] [1, 0] rfl ?_
                          exact b_X12_reads_241 hC hR hQ hr N _ _ h
                        · have h := h.2 c_55
                          refine k_iconst hC (pc := 237) (v := 0) dX12_reads_237 ic_0 ?_
                          exact k_zret hC (pc := 238) hQ hr dX12_reads_238 (Or.inl rfl) h
                      · have h := h.2 c_52
                        refine k_iconst hC (pc := 226) (v := 1) dX12_reads_226 ic_1 ?_
                        exact k_zret hC (pc := 227) hQ hr dX12_reads_227 (Or.inr rfl) h
                    · have h := h.2 c_49
                      refine k_iconst hC (pc := 205) (v := 0) dX12_reads_205 ic_0 ?_
                      exact k_zret hC (pc := 206) hQ hr dX12_reads_206 (Or.inl rfl) h
                  · have h := h.2 c_42
                    refine k_iconst hC (pc := 171) (v := 0) dX12_reads_171 ic_0 ?_
                    exact k_zret hC (pc := 172) hQ hr dX12_reads_172 (Or.inl rfl) h
              · have h := h.2 c_33
                refine k_iconst hC (pc := 134) (v := 0) dX12_reads_134 ic_0 ?_
                exact k_zret hC (pc := 135) hQ hr dX12_reads_135 (Or.inl rfl) h
          · have h := h.2 c_23
            refine k_iconst hC (pc := 92) (v := 0) dX12_reads_92 ic_0 ?_
            exact k_zret hC (pc := 93) hQ hr dX12_reads_93 (Or.inl rfl) h
      · have h := h.2 c_14
        refine k_iconst hC (pc := 56) (v := 0) dX12_reads_56 ic_0 ?_
        exact k_zret hC (pc := 57) hQ hr dX12_reads_57 (Or.inl rfl) h
  · have h := h.2 c_5
    refine k_iconst hC (pc := 21) (v := 0) dX12_reads_21 ic_0 ?_
    exact k_zret hC (pc := 22) hQ hr dX12_reads_22 (Or.inl rfl) h
theorem ct_X12_reads {l : Launch} {G : Gx} {a : Ax} {s : Sx} {N : Nat} {post : Int32 → Sx → Prop} (x1 : Int32) (x2 : Int32) (h : w_X12_reads N x1 x2 s post) : Met l yX12_reads (Cond.code yX12_reads cX12_reads 5 (some .boolean) :: gw) { frames := 2, cells := 0, slots := 0, locals := 47 } (va_Pc [.ref (adr G a 6 0), .int x1, .int x2] (fun U => FU G a s U)) (Qi G a post) 0 0 (bs_ G) := met_of (plainFor_of_name (by decide)) (Nat.le_of_ble_eq_true rfl) rfl (fun X hC hl hR hQ hr hG hn => by subst hG; exact b_X12_reads hC hR hQ hr hn s x1 x2 h)
theorem ca_X12_reads : Ca yX12_reads cX12_reads 5 (some .boolean) 2 := ⟨cd_X12_reads, ii_RX12, by decide, by decide, by decide +kernel⟩
def w_X12_order (N : Nat) (x1 : Int32) (x2 : Int32) (x3 : Int32) (x4 : Int32) (x5 : Int32) (s : Sx) (post : Int32 → Sx → Prop) : Prop := ∀ s_1, s_1 = setI s 6 0 0 0 → w_X12_isSheet N x2 s_1 (fun r_3 s_2 => (¬ r_3 = 0 → w_X12_isDay N x1 s_2 (fun r_6 s_5 => (r_6 = 0 → post ((-2)) s_5) ∧ (¬ (r_6 = 0) → w_X12_isLane N x3 s_5 (fun r_9 s_8 => (¬ r_9 = 0 → w_X12_against N x2 x3 x4 x5 s_8 (fun r_12 s_11 => (r_12 = 0 → ∀ x_14 : Int32, x_14 = (60 * x2) + x4 → w_X12_reads N x_14 x5 s_11 (fun r_16 s_15 => (¬ r_16 = 0 → (¬ (s_15.1 6 0 16) = 12 → vp_in 12 13 ∧ vp_in (s_15.1 6 0 16) 13 ∧ ∀ s_21, s_21 = setI s_15 5 17 (s_15.1 6 0 16).toNatClampNeg (s_15.1 5 17 (12 : Int32).toNatClampNeg) → vp_in 12 13 ∧ vp_in (s_21.1 6 0 16) 13 ∧ ∀ s_24, s_24 = setI s_21 5 18 (s_21.1 6 0 16).toNatClampNeg (s_21.1 5 18 (12 : Int32).toNatClampNeg) → vp_in 12 13 ∧ vp_in (s_24.1 6 0 16) 13 ∧ ∀ s_27, s_27 = setI s_24 5 19 (s_24.1 6 0 16).toNatClampNeg (s_24.1 5 19 (12 : Int32).toNatClampNeg) → vp_in 12 13 ∧ vp_in (s_27.1 6 0 16) 13 ∧ ∀ s_30, s_30 = setI s_27 5 20 (s_27.1 6 0 16).toNatClampNeg (s_27.1 5 20 (12 : Int32).toNatClampNeg) → vp_in 12 13 ∧ vp_in (s_30.1 6 0 16) 13 ∧ ∀ s_33, s_33 = setI s_30 5 21 (s_30.1 6 0 16).toNatClampNeg (s_30.1 5 21 (12 : Int32).toNatClampNeg) → vp_in 12 13 ∧ vp_in (s_33.1 6 0 16) 13 ∧ ∀ s_36, s_36 = setI s_33 5 22 (s_33.1 6 0 16).toNatClampNeg (s_33.1 5 22 (12 : Int32).toNatClampNeg) → vp_in (s_36.1 6 0 16) 13 ∧ ∀ s_38, s_38 = setI s_36 5 23 (s_36.1 6 0 16).toNatClampNeg x1 → ∀ s_39, s_39 = setI s_38 6 0 16 ((s_38.1 6 0 16) + 1) → post ((s_39.1 6 0 16) - 1) s_39) ∧ (¬ (¬ (s_15.1 6 0 16) = 12) → post ((-4)) s_15)) ∧ (¬ (¬ r_16 = 0) → post (((-100)) - ((s_15.1 6 0 27) - x_14)) s_15))) ∧ (¬ (r_12 = 0) → w_X12_fails N r_12 s_11 (fun r_41 s_40 => post r_41 s_40)))) ∧ (¬ (¬ r_9 = 0) → post ((-2)) s_8))))) ∧ (¬ (¬ r_3 = 0) → post ((-1)) s_2))
set_option maxHeartbeats 4000000 in
theorem b_X12_order {X : Kx} {a : Ax} {N : Nat} {post : Int32 → Sx → Prop} (hC : Cx X cX12_order 8 RX12) (hR : X.R = { frames := 3, cells := 0, slots := 0, locals := 71 }) (hQ : X.Q = MQ X.below (Qi X.G a post) X.av X.s 0 0 (bs_ X.G)) (hr : X.meth.sig.returnType = (some .int)) (hn : X.meth.name = "order") (s : Sx) (x1 : Int32) (x2 : Int32) (x3 : Int32) (x4 : Int32) (x5 : Int32) (h : w_X12_order N x1 x2 x3 x4 x5 s post) : wk X a s 8 0 [(0, .ref (adr X.G a 6 0)), (1, .int x1), (2, .int x2), (3, .int x3), (4, .int x4), (5, .int x5)] [] 0 0 := by
  unfold w_X12_order at h
  refine k_aload_n hC (pc := 0) dX12_order_0 0 rfl ?_
  refine k_iconst hC (pc := 1) (v := 0) dX12_order_1 ic_0 ?_
  refine pf_X12_0 hC (pc := 2)  fl_RX12_181 dX12_order_2 (fun s_1 h_s_1 => ?_)
  have h := h s_1 h_s_1
  refine k_iload_n hC (pc := 5) dX12_order_5 2 rfl ?_
  refine k_ci (rn_S hC (pc := 6) (As := [.int x2]) (rest := []) ca_X12_isSheet ml_RX12_239 sm_X12_isSheet (ct_X12_isSheet x2 h) (by rw [hR]; exact ⟨rfl, rfl, by decide, by decide⟩) rfl (Nat.le_of_ble_eq_true rfl) dX12_order_6 ⟨by rw [hR]; decide, by rw [hR]; decide⟩) (fun r_3 s_2 h => ?_)
  refine k_if_ne hC (pc := 9) 14 dX12_order_9 (by decide) (fun c_4 => ?_) (fun c_4 => ?_)
  · have h := h.1 c_4
    refine k_iload_n hC (pc := 14) dX12_order_14 1 rfl ?_
    refine k_ci (rn_S hC (pc := 15) (As := [.int x1]) (rest := []) ca_X12_isDay ml_RX12_203 sm_X12_isDay (ct_X12_isDay x1 h) (by rw [hR]; exact ⟨rfl, rfl, by decide, by decide⟩) rfl (Nat.le_of_ble_eq_true rfl) dX12_order_15 ⟨by rw [hR]; decide, by rw [hR]; decide⟩) (fun r_6 s_5 h => ?_)
    refine k_if_eq hC (pc := 18) 28 dX12_order_18 (by decide) (fun c_7 => ?_) (fun c_7 => ?_)
    · have h := h.1 c_7
      refine k_bipush hC (pc := 28) (v := (-2)) dX12_order_28 bp_m2 ?_
      exact k_iret hC (pc := 30) hQ hr dX12_order_30 h
    · have h := h.2 c_7
      refine k_iload_n hC (pc := 21) dX12_order_21 3 rfl ?_
      refine k_ci (rn_S hC (pc := 22) (As := [.int x3]) (rest := []) ca_X12_isLane ml_RX12_242 sm_X12_isLane (ct_X12_isLane x3 h) (by rw [hR]; exact ⟨rfl, rfl, by decide, by decide⟩) rfl (Nat.le_of_ble_eq_true rfl) dX12_order_22 ⟨by rw [hR]; decide, by rw [hR]; decide⟩) (fun r_9 s_8 h => ?_)
      refine k_if_ne hC (pc := 25) 31 dX12_order_25 (by decide) (fun c_10 => ?_) (fun c_10 => ?_)
      · have h := h.1 c_10
        refine k_aload_n hC (pc := 31) dX12_order_31 0 rfl ?_
        refine k_iload_n hC (pc := 32) dX12_order_32 2 rfl ?_
        refine k_iload_n hC (pc := 33) dX12_order_33 3 rfl ?_
        refine k_iload hC (pc := 34) dX12_order_34 4 rfl ?_
        refine k_iload hC (pc := 36) dX12_order_36 5 rfl ?_
        refine k_ci (rn_V hC (pc := 38) (As := [.int x2, .int x3, .int x4, .int x5]) (rest := []) ca_X12_against ml_RX12_245 im_X12_against se_X12_against (fx_in f6_0) (ob6_0 _ _ _ _ _) rfl rfl (ct_X12_against x2 x3 x4 x5 h) (by rw [hR]; exact ⟨rfl, rfl, by decide, by decide⟩) rfl (Nat.le_of_ble_eq_true rfl) dX12_order_38 ⟨by rw [hR]; decide, by rw [hR]; decide⟩) (fun r_12 s_11 h => ?_)
        refine k_istore hC (pc := 41) dX12_order_41 [(6, .int r_12), (0, .ref (adr X.G a 6 0)), (1, .int x1), (2, .int x2), (3, .int x3), (4, .int x4), (5, .int x5)] (by decide) rfl ?_
        refine k_iload hC (pc := 43) dX12_order_43 0 rfl ?_
        refine k_if_eq hC (pc := 45) 55 dX12_order_45 (by decide) (fun c_13 => ?_) (fun c_13 => ?_)
        · have h := h.1 c_13
          refine k_bipush hC (pc := 55) (v := 60) dX12_order_55 bp_60 ?_
          refine k_iload_n hC (pc := 57) dX12_order_57 3 rfl ?_
          refine k_imul hC (pc := 58) dX12_order_58 ?_
          refine k_iload hC (pc := 59) dX12_order_59 5 rfl ?_
          refine k_iadd hC (pc := 61) dX12_order_61 ?_
          refine k_topi (fun x_14 h_x_14 => ?_)
          have h := h x_14 h_x_14
          refine k_istore hC (pc := 62) dX12_order_62 [(7, .int x_14), (6, .int r_12), (0, .ref (adr X.G a 6 0)), (1, .int x1), (2, .int x2), (3, .int x3), (4, .int x4), (5, .int x5)] (by decide) rfl ?_
          refine k_aload_n hC (pc := 64) dX12_order_64 2 rfl ?_
          refine k_iload hC (pc := 65) dX12_order_65 0 rfl ?_
          refine k_iload hC (pc := 67) dX12_order_67 7 rfl ?_
          refine k_ci (rn_V hC (pc := 69) (As := [.int x_14, .int x5]) (rest := []) ca_X12_reads ml_RX12_253 im_X12_reads se_X12_reads (fx_in f6_0) (ob6_0 _ _ _ _ _) rfl rfl (ct_X12_reads x_14 x5 h) (by rw [hR]; exact ⟨rfl, rfl, by decide, by decide⟩) rfl (Nat.le_of_ble_eq_true rfl) dX12_order_69 ⟨by rw [hR]; decide, by rw [hR]; decide⟩) (fun r_16 s_15 h => ?_)
          refine k_if_ne hC (pc := 72) 86 dX12_order_72 (by decide) (fun c_17 => ?_) (fun c_17 => ?_)
          · have h := h.1 c_17
            refine k_aload_n hC (pc := 86) dX12_order_86 2 rfl ?_
            refine gf_X12_16 hC (pc := 87)  fl_RX12_256 dX12_order_87 ?_
            refine k_bipush hC (pc := 90) (v := 12) dX12_order_90 bp_12 ?_
            refine k_icmp_ne hC (pc := 92) 98 dX12_order_92 (by decide) (fun c_18 => ?_) (fun c_18 => ?_)
            · have h := h.1 c_18
              refine k_aload_n hC (pc := 98) dX12_order_98 2 rfl ?_
              refine gf_X12_17 hC (pc := 99)  fl_RX12_43 dX12_order_99 ?_
              refine k_aload_n hC (pc := 102) dX12_order_102 2 rfl ?_
              refine gf_X12_16 hC (pc := 103)  fl_RX12_256 dX12_order_103 ?_
              refine k_aload_n hC (pc := 106) dX12_order_106 2 rfl ?_
              refine gf_X12_17 hC (pc := 107)  fl_RX12_43 dX12_order_107 ?_
              refine k_bipush hC (pc := 110) (v := 12) dX12_order_110 bp_12 ?_
              obtain ⟨c_19, h⟩ := h
              refine r_iald hC (pc := 112) ra5_17 c_19 dX12_order_112 ?_
              obtain ⟨c_20, h⟩ := h
              refine r_iast hC (pc := 113) ra5_17 c_20 dX12_order_113 (fun s_21 h_s_21 => ?_)
              have h := h s_21 h_s_21
              refine k_aload_n hC (pc := 114) dX12_order_114 2 rfl ?_
              refine gf_X12_18 hC (pc := 115)  fl_RX12_46 dX12_order_115 ?_
              refine k_aload_n hC (pc := 118) dX12_order_118 2 rfl ?_
              refine gf_X12_16 hC (pc := 119)  fl_RX12_256 dX12_order_119 ?_
              refine k_aload_n hC (pc := 122) dX12_order_122 2 rfl ?_
              refine gf_X12_18 hC (pc := 123)  fl_RX12_46 dX12_order_123 ?_
              refine k_bipush hC (pc := 126) (v := 12) dX12_order_126 bp_12 ?_
              obtain ⟨c_22, h⟩ := h
              refine r_iald hC (pc := 128) ra5_18 c_22 dX12_order_128 ?_
              obtain ⟨c_23, h⟩ := h
              refine r_iast hC (pc := 129) ra5_18 c_23 dX12_order_129 (fun s_24 h_s_24 => ?_)
              have h := h s_24 h_s_24
              refine k_aload_n hC (pc := 130) dX12_order_130 2 rfl ?_
              refine gf_X12_19 hC (pc := 131)  fl_RX12_49 dX12_order_131 ?_
              refine k_aload_n hC (pc := 134) dX12_order_134 2 rfl ?_
              refine gf_X12_16 hC (pc := 135)  fl_RX12_256 dX12_order_135 ?_
              refine k_aload_n hC (pc := 138) dX12_order_138 2 rfl ?_
              refine gf_X12_19 hC (pc := 139)  fl_RX12_49 dX12_order_139 ?_
              refine k_bipush hC (pc := 142) (v := 12) dX12_order_142 bp_12 ?_
              obtain ⟨c_25, h⟩ := h
              refine r_iald hC (pc := 144) ra5_19 c_25 dX12_order_144 ?_
              obtain ⟨c_26, h⟩ := h
              refine r_iast hC (pc := 145) ra5_19 c_26 dX12_order_145 (fun s_27 h_s_27 => ?_)
              have h := h s_27 h_s_27
              refine k_aload_n hC (pc := 146) dX12_order_146 2 rfl ?_
              refine gf_X12_20 hC (pc := 147)  fl_RX12_52 dX12_order_147 ?_
              refine k_aload_n hC (pc := 150) dX12_order_150 2 rfl ?_
              refine gf_X12_16 hC (pc := 151)  fl_RX12_256 dX12_order_151 ?_
              refine k_aload_n hC (pc := 154) dX12_order_154 2 rfl ?_
              refine gf_X12_20 hC (pc := 155)  fl_RX12_52 dX12_order_155 ?_
              refine k_bipush hC (pc := 158) (v := 12) dX12_order_158 bp_12 ?_
              obtain ⟨c_28, h⟩ := h
              refine r_iald hC (pc := 160) ra5_20 c_28 dX12_order_160 ?_
              obtain ⟨c_29, h⟩ := h
              refine r_iast hC (pc := 161) ra5_20 c_29 dX12_order_161 (fun s_30 h_s_30 => ?_)
              have h := h s_30 h_s_30
              refine k_aload_n hC (pc := 162) dX12_order_162 2 rfl ?_
              refine gf_X12_21 hC (pc := 163)  fl_RX12_55 dX12_order_163 ?_
              refine k_aload_n hC (pc := 166) dX12_order_166 2 rfl ?_
              refine gf_X12_16 hC (pc := 167)  fl_RX12_256 dX12_order_167 ?_
              refine k_aload_n hC (pc := 170) dX12_order_170 2 rfl ?_
              refine gf_X12_21 hC (pc := 171)  fl_RX12_55 dX12_order_171 ?_
              refine k_bipush hC (pc := 174) (v := 12) dX12_order_174 bp_12 ?_
              obtain ⟨c_31, h⟩ := h
              refine r_iald hC (pc := 176) ra5_21 c_31 dX12_order_176 ?_
              obtain ⟨c_32, h⟩ := h
              refine r_iast hC (pc := 177) ra5_21 c_32 dX12_order_177 (fun s_33 h_s_33 => ?_)
              have h := h s_33 h_s_33
              refine k_aload_n hC (pc := 178) dX12_order_178 2 rfl ?_
              refine gf_X12_22 hC (pc := 179)  fl_RX12_58 dX12_order_179 ?_
              refine k_aload_n hC (pc := 182) dX12_order_182 2 rfl ?_
              refine gf_X12_16 hC (pc := 183)  fl_RX12_256 dX12_order_183 ?_
              refine k_aload_n hC (pc := 186) dX12_order_186 2 rfl ?_
              refine gf_X12_22 hC (pc := 187)  fl_RX12_58 dX12_order_187 ?_
              refine k_bipush hC (pc := 190) (v := 12) dX12_order_190 bp_12 ?_
              obtain ⟨c_34, h⟩ := h
              refine r_iald hC (pc := 192) ra5_22 c_34 dX12_order_192 ?_
              obtain ⟨c_35, h⟩ := h
              refine r_iast hC (pc := 193) ra5_22 c_35 dX12_order_193 (fun s_36 h_s_36 => ?_)
              have h := h s_36 h_s_36
              refine k_aload_n hC (pc := 194) dX12_order_194 2 rfl ?_
              refine gf_X12_23 hC (pc := 195)  fl_RX12_61 dX12_order_195 ?_
              refine k_aload_n hC (pc := 198) dX12_order_198 2 rfl ?_
              refine gf_X12_16 hC (pc := 199)  fl_RX12_256 dX12_order_199 ?_
              refine k_iload_n hC (pc := 202) dX12_order_202 3 rfl ?_
              obtain ⟨c_37, h⟩ := h
              refine r_iast hC (pc := 203) ra5_23 c_37 dX12_order_203 (fun s_38 h_s_38 => ?_)
              have h := h s_38 h_s_38
              refine k_aload_n hC (pc := 204) dX12_order_204 2 rfl ?_
              refine k_dup hC (pc := 205) dX12_order_205 rfl ?_
              refine gf_X12_16 hC (pc := 206)  fl_RX12_256 dX12_order_206 ?_
              refine k_iconst hC (pc := 209) (v := 1) dX12_order_209 ic_1 ?_
              refine k_iadd hC (pc := 210) dX12_order_210 ?_
              refine pf_X12_16 hC (pc := 211)  fl_RX12_256 dX12_order_211 (fun s_39 h_s_39 => ?_)
              have h := h s_39 h_s_39
              refine k_aload_n hC (pc := 214) dX12_order_214 2 rfl ?_
              refine gf_X12_16 hC (pc := 215)  fl_RX12_256 dX12_order_215 ?_
              refine k_iconst hC (pc := 218) (v := 1) dX12_order_218 ic_1 ?_
              refine k_isub hC (pc := 219) dX12_order_219 ?_
              exact k_iret hC (pc := 220) hQ hr dX12_order_220 h
            · have h := h.2 c_18
              refine k_bipush hC (pc := 95) (v := (-4)) dX12_order_95 bp_m4 ?_
              exact k_iret hC (pc := 97) hQ hr dX12_order_97 h
          · have h := h.2 c_17
            refine k_bipush hC (pc := 75) (v := (-100)) dX12_order_75 bp_m100 ?_
            refine k_aload_n hC (pc := 77) dX12_order_77 2 rfl ?_
            refine gf_X12_27 hC (pc := 78)  fl_RX12_229 dX12_order_78 ?_
            refine k_iload hC (pc := 81) dX12_order_81 0 rfl ?_
            refine k_isub hC (pc := 83) dX12_order_83 ?_
            refine k_isub hC (pc := 84) dX12_order_84 ?_
            exact k_iret hC (pc := 85) hQ hr dX12_order_85 h
        · have h := h.2 c_13
          refine k_aload_n hC (pc := 48) dX12_order_48 1 rfl ?_
          refine k_iload hC (pc := 49) dX12_order_49 0 rfl ?_
          refine k_ci (rn_V hC (pc := 51) (As := [.int r_12]) (rest := []) ca_X12_fails ml_RX12_249 im_X12_fails se_X12_fails (fx_in f6_0) (ob6_0 _ _ _ _ _) rfl rfl (ct_X12_fails r_12 h) (by rw [hR]; exact ⟨rfl, rfl, by decide, by decide⟩) rfl (Nat.le_of_ble_eq_true rfl) dX12_order_51 ⟨by rw [hR]; decide, by rw [hR]; decide⟩) (fun r_41 s_40 h => ?_)
          exact k_iret hC (pc := 54) hQ hr dX12_order_54 h
      · have h := h.2 c_10
        refine k_bipush hC (pc := 28) (v := (-2)) dX12_order_28 bp_m2 ?_
        exact k_iret hC (pc := 30) hQ hr dX12_order_30 h
  · have h := h.2 c_4
    refine k_iconst hC (pc := 12) (v := (-1)) dX12_order_12 ic_m1 ?_
    exact k_iret hC (pc := 13) hQ hr dX12_order_13 h
theorem ct_X12_order {l : Launch} {G : Gx} {a : Ax} {s : Sx} {N : Nat} {post : Int32 → Sx → Prop} (x1 : Int32) (x2 : Int32) (x3 : Int32) (x4 : Int32) (x5 : Int32) (h : w_X12_order N x1 x2 x3 x4 x5 s post) : Met l yX12_order (Cond.code yX12_order cX12_order 8 (some .int) :: gw) { frames := 3, cells := 0, slots := 0, locals := 71 } (va_Pc [.ref (adr G a 6 0), .int x1, .int x2, .int x3, .int x4, .int x5] (fun U => FU G a s U)) (Qi G a post) 0 0 (bs_ G) := met_of (plainFor_of_name (by decide)) (Nat.le_of_ble_eq_true rfl) rfl (fun X hC hl hR hQ hr hG hn => by subst hG; exact b_X12_order hC hR hQ hr hn s x1 x2 x3 x4 x5 h)
theorem ca_X12_order : Ca yX12_order cX12_order 8 (some .int) 5 := ⟨cd_X12_order, ii_RX12, by decide, by decide, by decide +kernel⟩
