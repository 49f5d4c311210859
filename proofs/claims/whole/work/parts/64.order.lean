theorem Inv.ord {k : Nat} {s S : Sx} (hI : Inv k s) (h0 : ∀ n, 0 < n → S.1 0 n = s.1 0 n) (h00 : ∀ i, i < 14 → i ≠ 7 → S.1 0 0 i = s.1 0 0 i) (h1 : S.1 1 = s.1 1) (h3 : S.1 3 = s.1 3) (h5 : ∀ c, ¬ (17 ≤ c ∧ c ≤ 23) → S.1 5 c = s.1 5 c) (h6 : ∀ i, i ≠ 0 → i ≠ 16 → i ≠ 25 → i ≠ 26 → i ≠ 27 → S.1 6 0 i = s.1 6 0 i) (hz : S.1 0 0 14 = S.1 6 0 0) (hc : ∀ i, i ≠ 2 → i ≠ 3 → i ≠ 6 → S.2.2 i = s.2.2 i) (hR : IR S) : Inv (k + 1) S := by
  have hI2 := hI.up
  obtain ⟨hIC, hIM, hIP, hIZ, hIR, hIY, hIW, hIT, hIF, hIL, hIS⟩ := id hI
  refine ⟨?_, ?_, ?_, ⟨?_, hz⟩, hR, ?_, ?_, ?_, ?_, ?_, ?_⟩
  rotate_left 3
  · rw [h00 _ (by decide) (by decide), h6 _ (by decide) (by decide) (by decide) (by decide) (by decide)]; exact hIZ.1
  rotate_left 6
  · apply IC.of (s := s) <;> first | exact hIC | exact h00 _ (by decide) (by decide) | exact h6 _ (by decide) (by decide) (by decide) (by decide) (by decide) | exact h0 _ (by decide) | exact h5 _ (by decide) | exact congrFun (h0 _ (by decide)) _ | exact hc _ (by decide) (by decide) (by decide) | assumption
  · apply IM.of (s := s) <;> first | exact hIM | exact h00 _ (by decide) (by decide) | exact h6 _ (by decide) (by decide) (by decide) (by decide) (by decide) | exact h0 _ (by decide) | exact h5 _ (by decide) | exact congrFun (h0 _ (by decide)) _ | exact hc _ (by decide) (by decide) (by decide) | assumption
  · apply IP.of (s := s) <;> first | exact hIP | exact h00 _ (by decide) (by decide) | exact h6 _ (by decide) (by decide) (by decide) (by decide) (by decide) | exact h0 _ (by decide) | exact h5 _ (by decide) | exact congrFun (h0 _ (by decide)) _ | exact hc _ (by decide) (by decide) (by decide) | assumption
  · apply IY.of (s := s) <;> first | exact hIY | exact h00 _ (by decide) (by decide) | exact h6 _ (by decide) (by decide) (by decide) (by decide) (by decide) | exact h0 _ (by decide) | exact h5 _ (by decide) | exact congrFun (h0 _ (by decide)) _ | exact hc _ (by decide) (by decide) (by decide) | assumption
  · apply IW.of (s := s) <;> first | exact hIW.up | exact h00 _ (by decide) (by decide) | exact h6 _ (by decide) (by decide) (by decide) (by decide) (by decide) | exact h0 _ (by decide) | exact h5 _ (by decide) | exact congrFun (h0 _ (by decide)) _ | exact hc _ (by decide) (by decide) (by decide) | assumption
  · apply IT.of (s := s) <;> first | exact hIT | exact h00 _ (by decide) (by decide) | exact h6 _ (by decide) (by decide) (by decide) (by decide) (by decide) | exact h0 _ (by decide) | exact h5 _ (by decide) | exact congrFun (h0 _ (by decide)) _ | exact hc _ (by decide) (by decide) (by decide) | assumption
  · apply IF.of (s := s) <;> first | exact hIF | exact h00 _ (by decide) (by decide) | exact h6 _ (by decide) (by decide) (by decide) (by decide) (by decide) | exact h0 _ (by decide) | exact h5 _ (by decide) | exact congrFun (h0 _ (by decide)) _ | exact hc _ (by decide) (by decide) (by decide) | assumption
  · apply IL.of (s := s) <;> first | exact hIL | exact h00 _ (by decide) (by decide) | exact h6 _ (by decide) (by decide) (by decide) (by decide) (by decide) | exact h0 _ (by decide) | exact h5 _ (by decide) | exact congrFun (h0 _ (by decide)) _ | exact hc _ (by decide) (by decide) (by decide) | assumption
  · apply IS.of (s := s) <;> first | exact hIS | exact h00 _ (by decide) (by decide) | exact h6 _ (by decide) (by decide) (by decide) (by decide) (by decide) | exact h0 _ (by decide) | exact h5 _ (by decide) | exact congrFun (h0 _ (by decide)) _ | exact hc _ (by decide) (by decide) (by decide) | assumption
/-- what a call of order leaves alone -/
theorem Inv.ordR {k : Nat} {s T M : Sx} (hI : Inv k s) (hT0 : ∀ n, 0 < n → T.1 0 n = s.1 0 n) (hT00 : ∀ i, i < 14 → T.1 0 0 i = s.1 0 0 i) (hTz : T.1 0 0 14 = 0) (hT1 : T.1 1 = s.1 1) (hT2 : T.1 2 = s.1 2) (hT3 : T.1 3 = s.1 3) (hT5 : T.1 5 = s.1 5) (hT6 : ∀ i, i ≠ 0 → T.1 6 0 i = s.1 6 0 i) (hT60 : T.1 6 0 0 = 0) (hTc : ∀ i, i ≠ 6 → T.2.2 i = s.2.2 i) (h : FR T M) : Inv (k + 1) M := by
  obtain ⟨g1, g2, g3, g4⟩ := h
  have e0 : M.1 0 = T.1 0 := g2 0 (by decide) (by decide)
  have hc : ∀ i, i ≠ 6 → M.2.2 i = s.2.2 i := fun i hi => by rw [g1]; exact hTc i hi
  have h6 : ∀ i, i ≠ 0 → i ≠ 25 → i ≠ 26 → i ≠ 27 → M.1 6 0 i = s.1 6 0 i := fun i i0 i1 i2 i3 => by rw [g4 i i1 i2 i3, hT6 i i0]
  refine hI.ord (fun n hn => by rw [e0, hT0 n hn]) (fun i hi _ => by rw [e0, hT00 i hi]) ((g2 1 (by decide) (by decide)).trans hT1) ((g2 3 (by decide) (by decide)).trans hT3) (fun c hc => ?_) (fun i i0 _ i1 i2 i3 => h6 i i0 i1 i2 i3) (by rw [e0, hTz, g4 0 (by decide) (by decide) (by decide), hT60]) (fun i _ _ hi => hc i hi) ?_
  · funext u; rw [g3 c u (by omega), hT5]
  obtain ⟨e1, e2, e3, e4, e5, e6, e7⟩ := hI.2.2.2.2.1
  have m2 : M.1 2 = s.1 2 := (g2 2 (by decide) (by decide)).trans hT2
  have m07 : M.1 0 7 = s.1 0 7 := by rw [e0, hT0 7 (by decide)]
  have m007 : M.1 0 0 7 = s.1 0 0 7 := by rw [e0, hT00 7 (by decide)]
  have m5 : ∀ c o, o < 12 → M.1 5 c o = s.1 5 c o := fun c o ho => by rw [g3 c o (by omega), hT5]
  have m524 : M.1 5 24 = s.1 5 24 := by funext u; rw [g3 24 u (by omega), hT5]
  unfold IR
  rw [m007, h6 16 (by decide) (by decide) (by decide) (by decide), hc 2 (by decide), hc 3 (by decide), m07, m524]
  refine ⟨e1, e2, e3, e4, fun o ho => ?_, e6, e7⟩
  obtain ⟨a, b⟩ := e5 o ho
  unfold io1 io2 at *
  rw [m2, m5 17 o (by omega), m5 18 o (by omega), m5 19 o (by omega), m5 20 o (by omega), m5 21 o (by omega), m5 22 o (by omega), m5 23 o (by omega)]
  exact ⟨a, b⟩
set_option maxHeartbeats 4000000 in
theorem cs_order {N k : Nat} {s : Sx} (hN : 20000 ≤ N) (hk : k ≤ 600) (hI : Inv k s) (x1 : Int32) (x2 : Int32) (x3 : Int32) (x4 : Int32) (x5 : Int32) (P : Int32 → Int32 → Sx → Prop) (hP : ∀ r s', Inv (k + 1) s' → P r r s') : w_X11_order N x1 x2 x3 x4 x5 s (fun r s1 => w_X12_order N x1 x2 x3 x4 x5 s1 (fun r2 s2 => P r r2 s2)) := by
  have hI2 := hI.up
  obtain ⟨hIC, hIM, hIP, hIZ, hIR, hIY, hIW, hIT, hIF, hIL, hIS⟩ := id hI
  have hS := IS_iff.mp hIS
  obtain ⟨c1, c2, -⟩ := id hIC
  obtain ⟨e1, e2, e3, e4, e5, e6, e7⟩ := id hIR
  obtain ⟨cnt, hc7, ec⟩ := wi_n (n := 7) (by decide) c2
  have z0 : ∀ r f : Int32, P r r (setI (setI (setI (setI s 0 0 14 0) 0 0 14 f) 6 0 0 0) 6 0 0 f) := by
    intro r f
    refine hP _ _ ⟨(IC.of rfl rfl rfl rfl rfl rfl rfl rfl rfl rfl hIC), (IM.of rfl rfl hIM), (IP.of rfl rfl rfl rfl rfl rfl rfl rfl rfl rfl hIP), ?_, (IR.of rfl rfl rfl rfl rfl rfl rfl rfl rfl rfl rfl rfl rfl rfl hIR), (IY.of rfl rfl rfl rfl rfl rfl rfl rfl rfl rfl rfl rfl rfl rfl hIY), (IW.of rfl rfl rfl rfl rfl rfl rfl rfl rfl rfl rfl rfl rfl rfl rfl rfl rfl rfl rfl rfl rfl rfl rfl hIW.up), (IT.of rfl rfl rfl rfl rfl rfl rfl rfl rfl rfl rfl rfl hIT), (IF.of rfl rfl rfl rfl rfl rfl rfl rfl rfl rfl hIF), (IL.of rfl rfl rfl rfl rfl rfl rfl rfl rfl rfl hIL), (IS.of rfl rfl rfl rfl rfl rfl rfl rfl rfl rfl rfl hIS)⟩
    exact ⟨hIZ.1, rfl⟩
  have z1 : ∀ r : Int32, P r r (setI (setI s 0 0 14 0) 6 0 0 0) := by
    intro r
    refine hP _ _ ⟨(IC.of rfl rfl rfl rfl rfl rfl rfl rfl rfl rfl hIC), (IM.of rfl rfl hIM), (IP.of rfl rfl rfl rfl rfl rfl rfl rfl rfl rfl hIP), ?_, (IR.of rfl rfl rfl rfl rfl rfl rfl rfl rfl rfl rfl rfl rfl rfl hIR), (IY.of rfl rfl rfl rfl rfl rfl rfl rfl rfl rfl rfl rfl rfl rfl hIY), (IW.of rfl rfl rfl rfl rfl rfl rfl rfl rfl rfl rfl rfl rfl rfl rfl rfl rfl rfl rfl rfl rfl rfl rfl hIW.up), (IT.of rfl rfl rfl rfl rfl rfl rfl rfl rfl rfl rfl rfl hIT), (IF.of rfl rfl rfl rfl rfl rfl rfl rfl rfl rfl hIF), (IL.of rfl rfl rfl rfl rfl rfl rfl rfl rfl rfl hIL), (IS.of rfl rfl rfl rfl rfl rfl rfl rfl rfl rfl rfl hIS)⟩
    exact ⟨hIZ.1, rfl⟩
  simp only [w_X11_order, w_X11_sheetAt, w_X11_isLane, w_X11_isDay, wi_eq, wm_eq, forall_eq, true_implies, false_implies, implies_true, not_true_eq_false, not_false_eq_true, not_true, not_false_iff, and_true, true_and, and_false, false_and, true_or, or_true, i1n0, i0e0, so_n, so_s, no_s]
  by_cases h1 : wi x2 0 3
  case neg => simp [w_X12_order, w_X12_isSheet, wm_eq, h1, z1]
  obtain ⟨j, hj, rfl, hv, hc⟩ := in4 h1
  by_cases h2 : wi x1 0 399
  case neg => simp [w_X12_order, w_X12_isSheet, w_X12_isDay, wm_eq, h1, h2, hc, hj, hv, z1]
  by_cases h3 : wi x3 0 2
  case neg => simp [w_X12_order, w_X12_isSheet, w_X12_isDay, w_X12_isLane, wm_eq, h1, h2, h3, hc, hj, hv, z1]
  simp only [h1, h2, h3, hv, hc, hj, true_implies, false_implies, implies_true, not_true_eq_false, not_false_eq_true, not_true, not_false_iff, and_true, true_and, and_false, false_and, true_or, or_true, i1n0, i0e0]
  have z42 : ¬ 42 + j = 0 := by omega
  have z46 : ¬ 46 + j = 0 := by omega
  have q42 : (setI s 0 0 14 0).1 0 (42 + j) = s.1 0 (42 + j) := by simp [rdI, z42]
  refine fo_eq hj (hS j hj) q42 ?_
  rcases ft_cases s j x3 x4 x5 with hf | ⟨hf, hf2⟩
  case inr =>
    rw [nf_n hf]
    simp only [hf2, true_implies, false_implies, implies_true, not_true_eq_false, not_false_eq_true, not_true, not_false_iff, and_true, true_and, and_false, false_and, true_or, or_true, i1n0, i0e0, w_X12_order, w_X12_isSheet, w_X12_isDay, w_X12_isLane, wm_eq, forall_eq, h1, h2, h3]
    refine ag_eq (s := s) hj rfl rfl ?_
    simp only [hf, true_implies, false_implies, implies_true, not_true_eq_false, not_false_eq_true, not_true, not_false_iff, and_true, true_and, and_false, false_and, true_or, or_true, i1n0, i0e0, w_X12_fails, forall_eq]
    exact z0 _ _
  obtain ⟨i, n, c, rfl, rfl, ecl, hin, hc60, el, en, el2⟩ := ft_0 (hS j hj) hf
  rw [hf, nf_0]
  simp only [true_implies, false_implies, implies_true, not_true_eq_false, not_false_eq_true, not_true, not_false_iff, and_true, true_and, and_false, false_and, true_or, or_true, i1n0, i0e0]
  generalize hZ : setI (setI s 0 0 14 0) 0 0 14 0 = Z
  have hZ2 : Z.2 = s.2 := by rw [← hZ]; rfl
  have hZ0 : ∀ n, 0 < n → Z.1 0 n = s.1 0 n := fun n hn => by rw [← hZ]; simp [rdI, show ¬ n = 0 by omega]
  have hZ00 : ∀ i, i < 14 → Z.1 0 0 i = s.1 0 0 i := fun i hi => by rw [← hZ]; simp [rdI, rdU, show ¬ i = 14 by omega]
  have hZz : Z.1 0 0 14 = 0 := by rw [← hZ]; rfl
  have hZk : ∀ k, k ≠ 0 → Z.1 k = s.1 k := fun k hk => by rw [← hZ]; funext u; simp [rdI, hk]
  generalize hp : Z.2.2 6 = p
  generalize hB : newD Z 4 6 = B
  have hB6 : p < B.2.2 6 := by rw [← hB, rdD2, if_pos rfl, hp]; omega
  have hBk : ∀ k, k ≠ 4 → B.1 k = Z.1 k := fun k hk => by rw [← hB]; funext u; rw [rdD, if_neg (by omega)]
  have hBc : ∀ i, i ≠ 6 → B.2.2 i = s.2.2 i := fun i hi => by rw [← hB, rdD2, if_neg hi, hZ2]
  have hB4 : B.1 4 p = fun _ => 0 := by rw [← hB, rdD, if_pos ⟨rfl, hp.symm⟩]
  have hB14 : B.1 0 1 4 = nI cnt := by rw [hBk 0 (by decide), hZ0 1 (by decide), ec]
  have hcl : ∀ u, u < n → (fun u => s.1 0 (46 + j) (i + u)) u = B.1 0 (46 + j) (i + u) := fun u hu => by rw [hBk 0 (by decide), hZ0 (46 + j) (by omega)]
  have hmod : ∀ (S : Sx) (Q : Int32 → Sx → Prop), S.1 5 = s.1 5 → (∀ i, i ≠ 0 → S.1 6 0 i = s.1 6 0 i) → (∀ o fh th fd td k M', prs (fun u => s.1 0 (46 + j) (i + u)) n cnt = .ok (o, fh, th, fd, td, k) → wi o 0 4 → FR (setI S 6 0 0 0) M' → M'.1 5 17 12 = o → M'.1 5 18 12 = fh → M'.1 5 19 12 = th → M'.1 5 20 12 = fd → M'.1 5 21 12 = td → M'.1 5 22 12 = k → (¬ (M'.1 6 0 16) = 12 → vp_in 12 13 ∧ vp_in (M'.1 6 0 16) 13 ∧ ∀ s_21, s_21 = setI M' 5 17 (M'.1 6 0 16).toNatClampNeg (M'.1 5 17 (12 : Int32).toNatClampNeg) → vp_in 12 13 ∧ vp_in (s_21.1 6 0 16) 13 ∧ ∀ s_24, s_24 = setI s_21 5 18 (s_21.1 6 0 16).toNatClampNeg (s_21.1 5 18 (12 : Int32).toNatClampNeg) → vp_in 12 13 ∧ vp_in (s_24.1 6 0 16) 13 ∧ ∀ s_27, s_27 = setI s_24 5 19 (s_24.1 6 0 16).toNatClampNeg (s_24.1 5 19 (12 : Int32).toNatClampNeg) → vp_in 12 13 ∧ vp_in (s_27.1 6 0 16) 13 ∧ ∀ s_30, s_30 = setI s_27 5 20 (s_27.1 6 0 16).toNatClampNeg (s_27.1 5 20 (12 : Int32).toNatClampNeg) → vp_in 12 13 ∧ vp_in (s_30.1 6 0 16) 13 ∧ ∀ s_33, s_33 = setI s_30 5 21 (s_30.1 6 0 16).toNatClampNeg (s_30.1 5 21 (12 : Int32).toNatClampNeg) → vp_in 12 13 ∧ vp_in (s_33.1 6 0 16) 13 ∧ ∀ s_36, s_36 = setI s_33 5 22 (s_33.1 6 0 16).toNatClampNeg (s_33.1 5 22 (12 : Int32).toNatClampNeg) → vp_in (s_36.1 6 0 16) 13 ∧ ∀ s_38, s_38 = setI s_36 5 23 (s_36.1 6 0 16).toNatClampNeg x1 → ∀ s_39, s_39 = setI s_38 6 0 16 ((s_38.1 6 0 16) + 1) → Q ((s_39.1 6 0 16) - 1) s_39) ∧ (¬ (¬ (M'.1 6 0 16) = 12) → Q ((-4)) M')) → (∀ q M', prs (fun u => s.1 0 (46 + j) (i + u)) n cnt = .error q → FE (setI S 6 0 0 0) M' (60 * j + i) q → Q ((-100) - nI q) M') → w_X12_order N x1 (nI j) x3 (nI i) (nI n) S Q := by
    intro S Q q5 q6 g1 g0
    simp only [w_X12_order, w_X12_isSheet, w_X12_isDay, w_X12_isLane, wm_eq, forall_eq, h1, h2, h3, true_implies, false_implies, implies_true, not_true_eq_false, not_false_eq_true, not_true, not_false_iff, and_true, true_and, and_false, false_and, true_or, or_true, i1n0, i0e0]
    refine ag_eq (s := s) hj (congrFun q5 2) (congrFun q5 3) ?_
    rw [hf]
    simp only [true_implies, false_implies, implies_true, not_true_eq_false, not_false_eq_true, not_true, not_false_iff, and_true, true_and, and_false, false_and, true_or, or_true, i1n0, i0e0, show (60 : Int32) = nI 60 from rfl, pk_mul, nI_add]
    refine rd_m (cnt := cnt) (f := fun u => s.1 0 (46 + j) (i + u)) hN hc7 (by omega) (by omega) (fun u hu => ?_) ?_ (fun o fh th fd td k M' p1 p2 p3 p4 p5 p6 p7 p8 p9 => ?_) (fun q M' p1 p2 => ?_)
    · show s.1 0 (46 + j) (i + u) = S.1 5 4 (60 * j + i + u)
      rw [q5, (hS j hj).2 (i + u) (by omega), Nat.add_assoc]
    · show S.1 6 0 5 = _
      rw [q6 5 (by decide), ← c1, ec]
    · simp only [true_implies, false_implies, implies_true, not_true_eq_false, not_false_eq_true, not_true, not_false_iff, and_true, true_and, and_false, false_and, true_or, or_true, i1n0, i0e0, i1n0]
      have := g1 o fh th fd td k M' p1 p2 p3 p4 p5 p6 p7 p8 p9
      simp only [forall_eq] at this
      exact this
    · simp only [true_implies, false_implies, implies_true, not_true_eq_false, not_false_eq_true, not_true, not_false_iff, and_true, true_and, and_false, false_and, true_or, or_true, i1n0, i0e0]
      rw [p2.2, pk_sub (by omega), show 60 * j + i + q - (60 * j + i) = q by omega]
      exact g0 q M' p1 p2
  simp only [w_X3_init, hj, hB6, hB14, rdI2, forall_eq, true_implies, false_implies, implies_true, not_true_eq_false, not_false_eq_true, not_true, not_false_iff, and_true, true_and, and_false, false_and, true_or, or_true, i1n0, i0e0]
  generalize hS0 : setI (setI (setI (setI (setI B 4 p 5 (-1)) 4 p 0 (nI (j + 1))) 4 p 1 (nI i)) 4 p 2 (nI n)) 4 p 3 (nI cnt) = S0
  have hF0 : FC B p S0 j i n cnt 0 ∧ S0.1 4 p 11 = 0 := by
    rw [← hS0]
    unfold FC
    simp only [rdI, rdI2, and_self, if_true, rdU, Nat.reduceEqDiff, if_false, hB4]
    refine ⟨⟨trivial, fun k hk => ?_, trivial, trivial, trivial, trivial, rfl, trivial⟩, trivial⟩
    funext u
    simp [rdI, hk]
  refine ra_c (c := cnt) (f := fun u => s.1 0 (46 + j) (i + u)) hN hB6 hj (by omega) hc7 hcl hF0.1 hF0.2 (fun o fh th fd td k S' p1 p2 p3 p4 k6 k7 k8 k9 k10 k11 => ?_) (fun q S' p1 p2 p3 => ?_)
  case refine_2 =>
    have hS5 : S'.1 5 = s.1 5 := by rw [p3.2.1 5 (by decide), hBk 5 (by decide), hZk 5 (by decide)]
    have hS6 : ∀ i, S'.1 6 0 i = s.1 6 0 i := fun i => by rw [p3.2.1 6 (by decide), hBk 6 (by decide), hZk 6 (by decide)]
    have hS0' : S'.1 0 = Z.1 0 := by rw [p3.2.1 0 (by decide), hBk 0 (by decide)]
    simp only [w_X3_isFaulty, p3.p6 hB6, p3.2.2, nm1 q (by omega), true_implies, false_implies, implies_true, not_true_eq_false, not_false_eq_true, not_true, not_false_iff, and_true, true_and, and_false, false_and, true_or, or_true, i1n0, i0e0]
    refine hmod _ _ hS5 (fun i _ => hS6 i) (fun o fh th fd td k M' q1 => by rw [p1] at q1; simp at q1) (fun q' M' q1 q2 => ?_)
    rw [p1] at q1
    injection q1 with q1
    subst q1
    refine hP _ _ (hI.ordR (T := setI S' 6 0 0 0) (fun n hn => ?_) (fun i hi => ?_) ?_ ?_ ?_ ?_ hS5 (fun i hi => ?_) rfl (fun i hi => ?_) q2.1)
    · show S'.1 0 n = _; rw [hS0', hZ0 n hn]
    · show S'.1 0 0 i = _; rw [hS0', hZ00 i hi]
    · show S'.1 0 0 14 = _; rw [hS0', hZz]
    · show S'.1 1 = _; rw [p3.2.1 1 (by decide), hBk 1 (by decide), hZk 1 (by decide)]
    · show S'.1 2 = _; rw [p3.2.1 2 (by decide), hBk 2 (by decide), hZk 2 (by decide)]
    · show S'.1 3 = _; rw [p3.2.1 3 (by decide), hBk 3 (by decide), hZk 3 (by decide)]
    · rw [rdI, if_pos ⟨rfl, rfl⟩, rdU, if_neg hi, hS6]
    · show S'.2.2 i = _; rw [p3.1, hBc i hi]
  have hS5 : S'.1 5 = s.1 5 := by rw [p3 5 (by decide), hBk 5 (by decide), hZk 5 (by decide)]
  have hS6 : ∀ i, S'.1 6 0 i = s.1 6 0 i := fun i => by rw [p3 6 (by decide), hBk 6 (by decide), hZk 6 (by decide)]
  have hS0' : S'.1 0 = Z.1 0 := by rw [p3 0 (by decide), hBk 0 (by decide)]
  have hSc : ∀ i, i ≠ 6 → S'.2.2 i = s.2.2 i := fun i hi => by rw [p2, hBc i hi]
  have hS1 : S'.1 1 = s.1 1 := by rw [p3 1 (by decide), hBk 1 (by decide), hZk 1 (by decide)]
  have hS2 : S'.1 2 = s.1 2 := by rw [p3 2 (by decide), hBk 2 (by decide), hZk 2 (by decide)]
  have hS3 : S'.1 3 = s.1 3 := by rw [p3 3 (by decide), hBk 3 (by decide), hZk 3 (by decide)]
  have hp6 : p < S'.2.2 6 := by rw [p2]; exact hB6
  generalize hm : s.2.2 2 = m at e2 e3 e4 e5
  have hc2 : S'.2.2 2 = m := by rw [hSc 2 (by decide), hm]
  have hc3 : S'.2.2 3 = m := by rw [hSc 3 (by decide), e3]
  have h07 : S'.1 0 0 7 = nI m := by rw [hS0', hZ00 7 (by decide), e2]
  have hlt : (nI m < 12) = (m < 12) := by rw [show (12 : Int32) = nI 12 from rfl, nlt (by omega) (by decide)]
  have heq : (nI m = 12) = (m = 12) := by rw [show (12 : Int32) = nI 12 from rfl, neq (by omega) (by decide)]
  have h16 : s.1 6 0 16 = nI m := by rw [← e1, e2]
  simp only [w_X3_isFaulty, hp6, p4, true_implies, false_implies, implies_true, not_true_eq_false, not_false_eq_true, not_true, not_false_iff, and_true, true_and, and_false, false_and, true_or, or_true, i1n0, i0e0, h07, hlt]
  by_cases hf12 : m < 12
  case neg =>
    have hm12 : m = 12 := by omega
    simp only [hf12, true_implies, false_implies, implies_true, not_true_eq_false, not_false_eq_true, not_true, not_false_iff, and_true, true_and, and_false, false_and, true_or, or_true, i1n0, i0e0]
    refine hmod _ _ hS5 (fun i _ => hS6 i) (fun o' fh' th' fd' td' k' M' q1 q2 q3 q4 q5 q6 q7 q8 q9 => ?_) (fun q' M' q1 q2 => by rw [p1] at q1; simp at q1)
    have hM16 : M'.1 6 0 16 = nI m := by
      rw [q3.2.2.2 16 (by decide) (by decide) (by decide)]
      show S'.1 6 0 16 = _
      rw [hS6, h16]
    rw [hM16, heq]
    simp only [hm12, true_implies, false_implies, implies_true, not_true_eq_false, not_false_eq_true, not_true, not_false_iff, and_true, true_and, and_false, false_and, true_or, or_true, i1n0, i0e0]
    refine hP _ _ (hI.ordR (T := setI S' 6 0 0 0) (fun n hn => ?_) (fun i hi => ?_) ?_ hS1 hS2 hS3 hS5 (fun i hi => ?_) rfl (fun i hi => hSc i hi) q3)
    · show S'.1 0 n = _; rw [hS0', hZ0 n hn]
    · show S'.1 0 0 i = _; rw [hS0', hZ00 i hi]
    · show S'.1 0 0 14 = _; rw [hS0', hZz]
    · rw [rdI, if_pos ⟨rfl, rfl⟩, rdU, if_neg hi, hS6]
  have hvm : vp_in (nI m) 12 := vp_in_nI hf12 (by decide)
  have hvm13 : vp_in (nI m) 13 := vp_in_nI (by omega) (by decide)
  have hv12 : vp_in 12 13 := vp_in_nI (n := 12) (by decide) (by decide)
  have h12 : (12 : Int32).toNatClampNeg = 12 := by decide
  have er : nI m + 1 - 1 = nI m := by rw [nI_1, show (nI (m + 1) - 1 : Int32) = nI m from nI_pred m]
  simp only [hf12, true_implies, false_implies, implies_true, not_true_eq_false, not_false_eq_true, not_true, not_false_iff, and_true, true_and, and_false, false_and, true_or, or_true, i1n0, i0e0, w_X2_init, hc2, hc3, Nat.le_refl, forall_eq, rdI2, rdD2, rdN, rdN1, rdI, rdD, and_self, if_true, if_false, rdU, Nat.reduceEqDiff, false_and, and_false, true_and, and_true, reduceIte, hp6, Nat.lt_add_one, h07, hvm, nI_clamp (show m < 2 ^ 31 by omega), k6, k7, k8, k9, k10, k11]
  refine hmod _ _ hS5 (fun i _ => hS6 i) (fun o' fh' th' fd' td' k' M' q1 q2 q3 q4 q5 q6 q7 q8 q9 => ?_) (fun q' M' q1 q2 => by rw [p1] at q1; simp at q1)
  rw [p1] at q1
  simp only [Except.ok.injEq, Prod.mk.injEq] at q1
  obtain ⟨rfl, rfl, rfl, rfl, rfl, rfl⟩ := q1
  have hM16 : M'.1 6 0 16 = nI m := by
    rw [q3.2.2.2 16 (by decide) (by decide) (by decide)]
    show S'.1 6 0 16 = _
    rw [hS6, h16]
  have hne12 : ¬ m = 12 := by omega
  have hne12' : ¬ 12 = m := by omega
  simp only [hM16, heq, hne12, hne12', true_implies, false_implies, implies_true, not_true_eq_false, not_false_eq_true, not_true, not_false_iff, and_true, true_and, and_false, false_and, true_or, or_true, i1n0, i0e0, hv12, h12, hvm13, forall_eq, rdI, and_self, if_true, if_false, rdU, Nat.reduceEqDiff, false_and, and_false, true_and, and_true, reduceIte, nI_clamp (show m < 2 ^ 31 by omega), q4, q5, q6, q7, q8, q9]
  have mk : ∀ k, k ≠ 5 → k ≠ 6 → M'.1 k = _ := fun k k5 k6 => q3.2.1 k k5 k6
  have m5 : ∀ c u, ¬ (u = 12 ∧ 17 ≤ c ∧ c ≤ 22) → M'.1 5 c u = s.1 5 c u := fun c u h => by
    rw [q3.2.2.1 c u h]
    show S'.1 5 c u = _
    rw [hS5]
  have m6 : ∀ i, i ≠ 0 → i ≠ 25 → i ≠ 26 → i ≠ 27 → M'.1 6 0 i = s.1 6 0 i := fun i i0 i1 i2 i3 => by
    rw [q3.2.2.2 i i1 i2 i3, rdI, if_pos ⟨rfl, rfl⟩, rdU, if_neg i0]
    exact hS6 i
  have m60 : M'.1 6 0 0 = 0 := by
    rw [q3.2.2.2 0 (by decide) (by decide) (by decide), rdI, if_pos ⟨rfl, rfl⟩, rdU, if_pos rfl]
  have m0 : ∀ n, 0 < n → M'.1 0 n = s.1 0 n := fun n hn => by
    rw [mk 0 (by decide) (by decide)]
    simp only [rdI, rdN1, rdD, show ¬ n = 0 by omega, and_false, false_and, if_false, Nat.reduceEqDiff, reduceIte]
    rw [hS0', hZ0 n hn]
  have m00 : ∀ i, i ≠ 7 → M'.1 0 0 i = Z.1 0 0 i := fun i hi => by
    rw [mk 0 (by decide) (by decide)]
    simp only [rdI, rdN1, rdD, and_false, false_and, and_self, if_true, if_false, Nat.reduceEqDiff, reduceIte, rdU, hi]
    rw [hS0']
  have m007 : M'.1 0 0 7 = nI m + 1 := by
    rw [mk 0 (by decide) (by decide)]
    rfl
  have m1 : M'.1 1 = s.1 1 := (mk 1 (by decide) (by decide)).trans hS1
  have m3 : M'.1 3 = s.1 3 := (mk 3 (by decide) (by decide)).trans hS3
  have mc : ∀ i, i ≠ 2 → i ≠ 3 → i ≠ 6 → M'.2.2 i = s.2.2 i := fun i i2 i3 i6 => by
    rw [q3.1]
    simp only [rdI2, rdN, rdD2, i2, i3, if_false]
    exact hSc i i6
  have mc2 : M'.2.2 2 = m + 1 := by
    rw [q3.1]
    simp only [rdI2, rdN, rdD2, Nat.reduceEqDiff, if_false, if_true, reduceIte, hc2]
  have mc3 : M'.2.2 3 = m + 1 := by
    rw [q3.1]
    simp only [rdI2, rdN, rdD2, Nat.reduceEqDiff, if_false, if_true, reduceIte, hc3]
  have m2o : ∀ u, u ≠ m → M'.1 2 u = s.1 2 u := fun u hu => by
    rw [mk 2 (by decide) (by decide)]
    simp only [rdI, rdN1, rdD, hc2, hu, and_false, false_and, if_false, Nat.reduceEqDiff, reduceIte]
    rw [hS2]
  have m2m : M'.1 2 m 0 = o ∧ M'.1 2 m 1 = fh ∧ M'.1 2 m 2 = th ∧ M'.1 2 m 3 = fd ∧ M'.1 2 m 4 = td ∧ M'.1 2 m 5 = k ∧ M'.1 2 m 6 = x1 := by
    rw [mk 2 (by decide) (by decide)]
    simp only [rdI, rdN1, rdD, hc2, and_self, if_true, and_false, false_and, if_false, Nat.reduceEqDiff, reduceIte, rdU]
  refine hP _ _ (hI.ord (fun n hn => m0 n hn) (fun i hi h7 => ?_) m1 m3 (fun c hc => ?_) (fun i i0 i16 i1 i2 i3 => ?_) ?_ (fun i i2 i3 i6 => mc i i2 i3 i6) ?_)
  · show M'.1 0 0 i = _
    rw [m00 i h7, hZ00 i hi]
  · funext u
    simp only [rdI, show ¬ c = 17 by omega, show ¬ c = 18 by omega, show ¬ c = 19 by omega, show ¬ c = 20 by omega, show ¬ c = 21 by omega, show ¬ c = 22 by omega, show ¬ c = 23 by omega, and_false, false_and, if_false, Nat.reduceEqDiff, reduceIte]
    exact m5 c u (by omega)
  · simp only [rdI, rdU, and_self, and_false, false_and, if_true, if_false, Nat.reduceEqDiff, reduceIte, i16]
    exact m6 i i0 i1 i2 i3
  · simp only [rdI, rdU, and_self, and_false, false_and, if_true, if_false, Nat.reduceEqDiff, reduceIte]
    rw [m00 14 (by decide), hZz, m60]
  · unfold IR
    simp only [rdI, rdI2, rdU, and_self, and_false, false_and, and_true, true_and, if_true, if_false, Nat.reduceEqDiff, reduceIte, mc2, mc3, m007]
    refine ⟨by rw [nI_1], by omega, fun u hu => ?_, ?_, ?_⟩
    · unfold io1 io2
      simp only [rdI, rdI2, rdU, and_self, and_false, false_and, and_true, true_and, if_true, if_false, Nat.reduceEqDiff, reduceIte]
      by_cases hum : u = m
      · subst hum
        obtain ⟨y0, y1, y2, y3, y4, y5, y6⟩ := m2m
        rw [y0, y1, y2, y3, y4, y5, y6]
        simp only [if_true]
        exact ⟨⟨trivial, trivial, trivial, trivial, trivial, trivial, trivial⟩, q2, h2⟩
      · have hu12 : u < m := by omega
        simp only [hum, if_false, m2o u hum]
        rw [m5 17 u (by omega), m5 18 u (by omega), m5 19 u (by omega), m5 20 u (by omega), m5 21 u (by omega), m5 22 u (by omega), m5 23 u (by omega)]
        exact e5 u hu12
    · rw [m0 7 (by decide), e6]
      funext u
      exact (m5 24 u (by omega)).symm
    · rw [m0 7 (by decide)]
      exact e7
