theorem mord_eq {x c : Int32} {M : Nat} (hM : M < 2 ^ 30) (hc : wi c 0 (nI M)) (A B : Prop) : ((x < 0 → B) ∧ (¬ x < 0 → (x < c → A) ∧ (¬ x < c → B))) = ((wi x 0 (c - 1) → A) ∧ (¬ wi x 0 (c - 1) → B)) := by
  rw [← mc_eq hM hc]
  have h : (x < c) = ¬ (c ≤ x) := by rw [lt_, le_]; simp
  by_cases h0 : x < 0 <;> by_cases h1 : c ≤ x <;> simp [h, h0, h1]
theorem cs_ofOrder {N k : Nat} {s : Sx} (hN : 20000 ≤ N) (hk : k ≤ 600) (hI : Inv k s) (x1 : Int32) (x2 : Int32) (P : Int32 → Int32 → Sx → Prop) (hP : ∀ r s', Inv (k + 1) s' → P r r s') : w_X11_ofOrder N x1 x2 s (fun r s1 => w_X12_ofOrder N x1 x2 s1 (fun r2 s2 => P r r2 s2)) := by
  have hI2 := hI.up
  obtain ⟨hIC, hIM, hIP, hIZ, hIR, hIY, hIW, hIT, hIF, hIL, hIS⟩ := id hI
  obtain ⟨e1, e2, e3, e4, e5, e6, e7⟩ := id hIR
  have hw : wi (nI (s.2.2 2)) 0 12 := wi_nI (M := 12) e4 (by decide)
  have hm := fun (A B : Prop) => mord_eq (x := x1) (c := nI (s.2.2 2)) (M := 12) (by decide) hw A B
  simp only [w_X11_ofOrder, orderAt_eq, e3, e4, w_X2_fact, w_X12_ofOrder, true_implies, false_implies, implies_true, not_true_eq_false, not_false_eq_true, not_true, not_false_iff, and_true, true_and, and_false, false_and, true_or, or_true, i1n0, i0e0, so_n, so_s, no_s, ← e1, e2, hm]
  by_cases h1 : wi x1 0 (nI (s.2.2 2) - 1)
  case neg => simp [h1, hP _ _ hI2]
  obtain ⟨j, rfl, hj1, hj2, hj3, hj4⟩ := inC (M := 12) (by decide) hw h1
  rw [nI_clamp (by omega)] at hj1
  rw [hj4]
  obtain ⟨⟨a1, a2, a3, a4, a5, a6, a7⟩, -⟩ := e5 j hj1
  have hv : vp_in (nI j) 13 := vp_in_nI (by omega) (by decide)
  rw [← a1, ← a2, ← a3, ← a4, ← a5, ← a6, ← a7]
  by_cases c0 : x2 = 0
  · simp [h1, hj1, hv, c0, hP _ _ hI2]
  by_cases c1 : x2 = 1
  · simp [h1, hj1, hv, c1, hP _ _ hI2]
  by_cases c2 : x2 = 2
  · simp [h1, hj1, hv, c2, hP _ _ hI2]
  by_cases c3 : x2 = 3
  · simp [h1, hj1, hv, c3, hP _ _ hI2]
  by_cases c4 : x2 = 4
  · simp [h1, hj1, hv, c4, hP _ _ hI2]
  by_cases c5 : x2 = 5
  · simp [h1, hj1, hv, c5, hP _ _ hI2]
  by_cases c6 : x2 = 6
  · simp [h1, hj1, hv, c6, hP _ _ hI2]
  simp [h1, hj1, hv, c0, c1, c2, c3, c4, c5, c6, hP _ _ hI2]
theorem cs_ofWork {N k : Nat} {s : Sx} (hN : 20000 ≤ N) (hk : k ≤ 600) (hI : Inv k s) (x1 : Int32) (x2 : Int32) (P : Int32 → Int32 → Sx → Prop) (hP : ∀ r s', Inv (k + 1) s' → P r r s') : w_X11_ofWork N x1 x2 s (fun r s1 => w_X12_ofWork N x1 x2 s1 (fun r2 s2 => P r r2 s2)) := by
  have hI2 := hI.up
  obtain ⟨hIC, hIM, hIP, hIZ, hIR, hIY, hIW, hIT, hIF, hIL, hIS⟩ := id hI
  obtain ⟨e1, e2, e3, e4, e5, er⟩ := id hIW
  have hw : wi (nI (s.2.2 4)) 0 8 := wi_nI (M := 8) e4 (by decide)
  simp only [w_X11_ofWork, workAt_eq, e3, e4, w_X9_fact, w_X12_ofWork, true_implies, false_implies, implies_true, not_true_eq_false, not_false_eq_true, not_true, not_false_iff, and_true, true_and, and_false, false_and, true_or, or_true, i1n0, i0e0, so_n, so_s, no_s, mwork_eq, ← e1, e2, hw]
  by_cases h1 : wi x1 0 (nI (s.2.2 4) - 1)
  case neg => simp [h1, hP _ _ hI2]
  obtain ⟨j, rfl, hj1, hj2, hj3, hj4⟩ := inC (M := 8) (by decide) hw h1
  rw [nI_clamp (by omega)] at hj1
  rw [hj4]
  obtain ⟨⟨a1, a2, a3, a4, a5, a6, a7, a8⟩, -⟩ := e5 j hj1
  rw [← a1, ← a2, ← a5, ← a6, ← a7, ← a8]
  by_cases c0 : x2 = 0
  · simp [h1, hj1, hj3, c0, hP _ _ hI2]
  by_cases c1 : x2 = 1
  · simp [h1, hj1, hj3, c1, hP _ _ hI2]
  by_cases c2 : x2 = 2
  · simp [h1, hj1, hj3, c2, hP _ _ hI2]
  by_cases c3 : x2 = 3
  · simp [h1, hj1, hj3, c3, hP _ _ hI2]
  by_cases c4 : x2 = 4
  · simp [h1, hj1, hj3, c4, hP _ _ hI2]
  by_cases c5 : x2 = 5
  · simp [h1, hj1, hj3, c5, hP _ _ hI2]
  simp [h1, hj1, hj3, c0, c1, c2, c3, c4, c5, hP _ _ hI2]
theorem rd3 (s : Sx) (w i : Nat) (v : Int32) (p : Nat) : (setI s 3 w i v).1 3 p = if p = w then upd (s.1 3 w) i v else s.1 3 p := by
  simp [rdI]
set_option maxHeartbeats 2000000 in
theorem cs_hands {N k : Nat} {s : Sx} (hN : 20000 ≤ N) (hk : k ≤ 600) (hI : Inv k s) (x1 : Int32) (x2 : Int32) (x3 : Int32) (P : Int32 → Int32 → Sx → Prop) (hP : ∀ r s', Inv (k + 1) s' → P r r s') : w_X11_hands N x1 x2 x3 s (fun r s1 => w_X12_hands N x1 x2 x3 s1 (fun r2 s2 => P r r2 s2)) := by
  have hI2 := hI.up
  obtain ⟨hIC, hIM, hIP, hIZ, hIR, hIY, hIW, hIT, hIF, hIL, hIS⟩ := id hI
  obtain ⟨e1, e2, e3, e4, e5, e6, e7, e8, e9, e10, e11, e12, e13, e14, e15, e16⟩ := id hIW.up
  have hw : wi (nI (s.2.2 4)) 0 8 := wi_nI (M := 8) e4 (by decide)
  simp only [w_X11_hands, workAt_eq, e3, e4, w_X9_changeTools, w_X9_changeHands, w_X12_hands, w_X12_hands_51, wi_eq, wm_eq, forall_eq, rdI, rdU, rdI2, rdJ, rdJ1, rdN, rdN1, rdD, rdD2, rdD3, Nat.reduceEqDiff, and_self, and_true, true_and, and_false, false_and, if_true, if_false, reduceIte, Nat.zero_ne_one, Nat.one_ne_zero, i1n0, i0e0, not_true, not_false_iff, false_implies, true_implies, implies_true, true_implies, false_implies, implies_true, not_true_eq_false, not_false_eq_true, not_true, not_false_iff, and_true, true_and, and_false, false_and, true_or, or_true, i1n0, i0e0, so_n, so_s, no_s, mwork_eq, ← e1, e2, hw]
  by_cases h1 : wi x1 0 (nI (s.2.2 4) - 1)
  case neg => simp [h1, hP _ _ hI2]
  obtain ⟨j, rfl, hj1, hj2, hj3, hj4⟩ := inC (M := 8) (by decide) hw h1
  rw [nI_clamp (by omega)] at hj1
  rw [hj4]
  by_cases h2 : wi x2 0 1
  case neg => simp [h1, h2, hP _ _ hI2]
  by_cases h3 : wi x3 0 20
  case neg => simp [h1, h2, h3, hP _ _ hI2]
  obtain ⟨⟨a1, a2, a3, a4, a5, a6, a7, a8⟩, b1, b2, b3, b4, b5, b6⟩ := e5 j hj1
  by_cases h4 : x2 = 0
  · subst h4
    simp [h1, h2, h3, hj1, hj3, hj4]
    rw [← a4]
    refine hP _ _ ⟨(IC.of rfl rfl rfl rfl rfl rfl rfl rfl rfl rfl hIC), (IM.of rfl rfl hIM), (IP.of rfl rfl rfl rfl rfl rfl rfl rfl rfl rfl hIP), (IZ.of rfl rfl rfl rfl hIZ), (IR.of rfl rfl rfl rfl rfl rfl rfl rfl rfl rfl rfl rfl rfl rfl hIR), (IY.of rfl rfl rfl rfl rfl rfl rfl rfl rfl rfl rfl rfl rfl rfl hIY), ?_, (IT.of rfl rfl rfl rfl rfl rfl rfl rfl rfl rfl rfl rfl hIT), (IF.of rfl rfl rfl rfl rfl rfl rfl rfl rfl rfl hIF), (IL.of rfl rfl rfl rfl rfl rfl rfl rfl rfl rfl hIL), (IS.of rfl rfl rfl rfl rfl rfl rfl rfl rfl rfl rfl hIS)⟩
    refine ⟨e1, e2, e3, e4, fun w hww => ?_, e6, e7, e8, e9, e10, e11, e12, e13, e14, e15, e16⟩
    unfold iw1 iw2
    rcases Nat.lt_or_ge w j with q | q
    · have hne : w ≠ j := by omega
      simp [rdI, rdU, hne]
      exact e5 w hww
    · rcases Nat.lt_or_ge j w with q2 | q2
      · have hne : w ≠ j := by omega
        simp [rdI, rdU, hne]
        exact e5 w hww
      · have : w = j := by omega
        subst this
        simp [rdI, rdU]
        exact ⟨⟨a1, a2, a3, a5, a6, a7, a8⟩, b1, b2, h3, b4, b5, b6⟩
  · simp [h1, h2, h3, h4, hj1, hj3, hj4]
    rw [← a3]
    refine hP _ _ ⟨(IC.of rfl rfl rfl rfl rfl rfl rfl rfl rfl rfl hIC), (IM.of rfl rfl hIM), (IP.of rfl rfl rfl rfl rfl rfl rfl rfl rfl rfl hIP), (IZ.of rfl rfl rfl rfl hIZ), (IR.of rfl rfl rfl rfl rfl rfl rfl rfl rfl rfl rfl rfl rfl rfl hIR), (IY.of rfl rfl rfl rfl rfl rfl rfl rfl rfl rfl rfl rfl rfl rfl hIY), ?_, (IT.of rfl rfl rfl rfl rfl rfl rfl rfl rfl rfl rfl rfl hIT), (IF.of rfl rfl rfl rfl rfl rfl rfl rfl rfl rfl hIF), (IL.of rfl rfl rfl rfl rfl rfl rfl rfl rfl rfl hIL), (IS.of rfl rfl rfl rfl rfl rfl rfl rfl rfl rfl rfl hIS)⟩
    refine ⟨e1, e2, e3, e4, fun w hww => ?_, e6, e7, e8, e9, e10, e11, e12, e13, e14, e15, e16⟩
    unfold iw1 iw2
    rcases Nat.lt_or_ge w j with q | q
    · have hne : w ≠ j := by omega
      simp [rdI, rdU, hne]
      exact e5 w hww
    · rcases Nat.lt_or_ge j w with q2 | q2
      · have hne : w ≠ j := by omega
        simp [rdI, rdU, hne]
        exact e5 w hww
      · have : w = j := by omega
        subst this
        simp [rdI, rdU]
        exact ⟨⟨a1, a2, a4, a5, a6, a7, a8⟩, b1, h3, b3, b4, b5, b6⟩
set_option maxHeartbeats 2000000 in
theorem cs_work {N k : Nat} {s : Sx} (hN : 20000 ≤ N) (hk : k ≤ 600) (hI : Inv k s) (x1 : Int32) (x2 : Int32) (x3 : Int32) (P : Int32 → Int32 → Sx → Prop) (hP : ∀ r s', Inv (k + 1) s' → P r r s') : w_X11_work N x1 x2 x3 s (fun r s1 => w_X12_work N x1 x2 x3 s1 (fun r2 s2 => P r r2 s2)) := by
  have hI2 := hI.up
  obtain ⟨hIC, hIM, hIP, hIZ, hIR, hIY, hIW, hIT, hIF, hIL, hIS⟩ := id hI
  obtain ⟨c1, c2, c3⟩ := id hIC
  obtain ⟨e1, e2, e3, e4, e5, e6, e7, e8, e9, e10, e11, e12, e13, e14, e15, e16⟩ := id hIW.up
  obtain ⟨nw, hnw⟩ : ∃ nw, s.2.2 4 = nw := ⟨_, rfl⟩
  rw [hnw] at e2 e3 e4
  have hx : ((nI nw < 8) = (nw < 8)) := by rw [show (8 : Int32) = nI 8 from rfl, nlt (by omega) (by decide)]
  have hy : ((nI nw = 8) = (nw = 8)) := by rw [show (8 : Int32) = nI 8 from rfl, neq (by omega) (by decide)]
  simp only [w_X11_work, w_X0_has, w_X10_add, w_X9_init, w_X12_work, wi_eq, wm_eq, forall_eq, rdI, rdU, rdI2, rdJ, rdJ1, rdN, rdN1, rdD, rdD2, rdD3, Nat.reduceEqDiff, and_self, and_true, true_and, and_false, false_and, if_true, if_false, reduceIte, Nat.zero_ne_one, Nat.one_ne_zero, i1n0, i0e0, not_true, not_false_iff, false_implies, true_implies, implies_true, true_implies, false_implies, implies_true, not_true_eq_false, not_false_eq_true, not_true, not_false_iff, and_true, true_and, and_false, false_and, true_or, or_true, i1n0, i0e0, mcamp_eq, c2, ← c1, ← e1, e2, e3, hnw, hx, hy, nI_clamp (show nw < 2 ^ 31 by omega), Nat.le_refl, Nat.lt_add_one]
  by_cases h1 : wi x1 0 (s.1 0 1 4 - 1)
  case neg => simp [h1, hP _ _ hI2]
  by_cases h2 : wi x2 1 9999
  case neg => simp [h1, h2, hP _ _ hI2]
  by_cases h3 : wi x3 0 20
  case neg => simp [h1, h2, h3, hP _ _ hI2]
  by_cases hf : nw < 8
  case neg =>
    have hf2 : nw = 8 := by omega
    simp [h1, h2, h3, hf2, hP _ _ hI2]
  have hf2 : ¬ nw = 8 := by omega
  have hv : vp_in (nI nw) 8 := vp_in_nI hf (by decide)
  simp only [h1, h2, h3, hf, hf2, hv, true_implies, false_implies, implies_true, not_true_eq_false, not_false_eq_true, not_true, not_false_iff, and_true, true_and, and_false, false_and, true_or, or_true, i1n0, i0e0]
  have er : nI nw + 1 - 1 = nI nw := by rw [nI_1, show (nI (nw + 1) - 1 : Int32) = nI nw from nI_pred nw]
  refine hP _ _ ⟨(IC.of rfl rfl rfl rfl rfl rfl rfl rfl rfl rfl hIC), (IM.of rfl rfl hIM), (IP.of rfl rfl rfl rfl rfl rfl rfl rfl rfl rfl hIP), (IZ.of rfl rfl rfl rfl hIZ), (IR.of rfl rfl rfl rfl rfl rfl rfl rfl rfl rfl rfl rfl rfl rfl hIR), (IY.of rfl rfl rfl rfl rfl rfl rfl rfl rfl rfl rfl rfl rfl rfl hIY), ?_, (IT.of rfl rfl rfl rfl rfl rfl rfl rfl rfl rfl rfl rfl hIT), (IF.of rfl rfl rfl rfl rfl rfl rfl rfl rfl rfl hIF), (IL.of rfl rfl rfl rfl rfl rfl rfl rfl rfl rfl hIL), (IS.of rfl rfl rfl rfl rfl rfl rfl rfl rfl rfl rfl hIS)⟩
  refine ⟨rfl, ?_, ?_, ?_, fun w hww => ?_, e6, e7, e8, e9, e10, e11, e12, e13, e14, e15, e16⟩
  · show nI nw + 1 = nI _
    rw [nI_1]
    simp [rdI2, rdN, rdD2, hnw]
  · simp [rdI2, rdN, rdD2, hnw]
  · simp [rdI2, rdN, rdD2, hnw]; omega
  · have hww2 : w < nw + 1 := by simpa [rdI2, rdN, rdD2, hnw] using hww
    unfold iw1 iw2
    rcases Nat.lt_or_ge w nw with q | q
    · have hne : w ≠ nw := by omega
      simp [rdI, rdU, rdN1, rdD, hne, hnw]
      exact e5 w (by omega)
    · have : w = nw := by omega
      subst this
      simp [rdI, rdU, rdN1, rdD, hnw]
      have h21 := wi_i.mp h2
      refine ⟨h2, h3, ⟨by decide, by decide⟩, ⟨by decide, ?_⟩, by omega⟩
      rw [le_]
      rw [show (1 : Int32).toInt = 1 from by decide] at h21
      rw [show (0 : Int32).toInt = 0 from by decide]
      omega
