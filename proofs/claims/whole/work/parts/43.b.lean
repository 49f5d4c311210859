theorem cs_fire {N k : Nat} {s : Sx} (hN : 20000 ≤ N) (hk : k ≤ 600) (hI : Inv k s) (x1 : Int32) (x2 : Int32) (x3 : Int32) (x4 : Int32) (P : Int32 → Int32 → Sx → Prop) (hP : ∀ r s', Inv (k + 1) s' → P r r s') : w_X11_fire N x1 x2 x3 x4 s (fun r s1 => w_X12_fire N x1 x2 x3 x4 s1 (fun r2 s2 => P r r2 s2)) := by
  have hI2 := hI.up
  obtain ⟨hIC, hIM, hIP, hIZ, hIR, hIY, hIW, hIT, hIF, hIL, hIS⟩ := id hI
  obtain ⟨e1, e2, e3, e4, e5, e6, r1, r2, r3, r4, r5⟩ := hIF
  simp only [w_X11_fire, w_X11_isSpot, w_X1_add, w_X12_fire, w_X12_isSpot, wi_eq, wm_eq, forall_eq, rdI, rdU, rdI2, rdJ, rdJ1, rdN, rdN1, rdD, rdD2, rdD3, Nat.reduceEqDiff, and_self, and_true, true_and, and_false, false_and, if_true, if_false, reduceIte, Nat.zero_ne_one, Nat.one_ne_zero, i1n0, i0e0, not_true, not_false_iff, false_implies, true_implies, implies_true, ← e1]
  by_cases h1 : wi x1 0 40 <;> by_cases h2 : wi x2 0 40 <;> by_cases h3 : wi x3 1 60 <;> by_cases h4 : wi x4 1 99 <;> simp [h1, h2, h3, h4]
  rotate_left
  iterate 15 exact hP _ _ hI2
  rcases cnt_cases (M := 3) (m := 3) rfl (by decide) e2 with ⟨h5, h6⟩ | ⟨h5, h6, h7, h8, h9, h10⟩
  · simp [h5, hP _ _ hI2]
  · have h11 : ¬ 3 ≤ s.1 0 25 4 := by rw [le_]; rw [lt_] at h5; omega
    simp [h5, h6, h7, h11]
    refine hP _ _ ⟨(IC.of rfl rfl rfl rfl rfl rfl rfl rfl rfl rfl hIC), (IM.of rfl rfl hIM), (IP.of rfl rfl rfl rfl rfl rfl rfl rfl rfl rfl hIP), (IZ.of rfl rfl rfl rfl hIZ), (IR.of rfl rfl rfl rfl rfl rfl rfl rfl rfl rfl rfl rfl rfl rfl hIR), (IY.of rfl rfl rfl rfl rfl rfl rfl rfl rfl rfl rfl rfl rfl rfl hIY), (IW.of rfl rfl rfl rfl rfl rfl rfl rfl rfl rfl rfl rfl rfl rfl rfl rfl rfl rfl rfl rfl rfl rfl rfl hIW.up), (IT.of rfl rfl rfl rfl rfl rfl rfl rfl rfl rfl rfl rfl hIT), ?_, (IL.of rfl rfl rfl rfl rfl rfl rfl rfl rfl rfl hIL), (IS.of rfl rfl rfl rfl rfl rfl rfl rfl rfl rfl rfl hIS)⟩
    refine ⟨rfl, h8, up_c e3, up_c e4, up_c e5, up_c e6, al_u r1 h1, al_u r2 h2, al_u r3 (wi_m h3 (by decide) (by decide)), al_u r4 (wi_m h4 (by decide) (by decide)), fun i hi => ?_⟩
    have hi2 : i < (s.1 0 25 4 + 1).toNatClampNeg := hi
    show wi (if i = (s.1 0 25 4).toNatClampNeg then x3 else s.1 0 28 i) 1 60
    by_cases hh : i = (s.1 0 25 4).toNatClampNeg
    · rw [if_pos hh]; exact h3
    · rw [if_neg hh]; exact r5 i (by omega)
theorem nar_b (x : Int32) : wi (vp_nar .boolean x) 0 1 := by
  show wi (x &&& 1) 0 1
  obtain ⟨j, hj, e⟩ := pk_andE x (m := 1) 1 (by decide)
  rw [e]
  exact ⟨nI_pos' (by omega), nI_le (show j ≤ 1 by omega) (by decide)⟩
theorem cs_place {N k : Nat} {s : Sx} (hN : 20000 ≤ N) (hk : k ≤ 600) (hI : Inv k s) (x1 : Int32) (x2 : Int32) (x3 : Int32) (x4 : Int32) (P : Int32 → Int32 → Sx → Prop) (hP : ∀ r s', Inv (k + 1) s' → P r r s') : w_X11_place N x1 x2 x3 x4 s (fun r s1 => w_X12_place N x1 x2 x3 x4 s1 (fun r2 s2 => P r r2 s2)) := by
  have hI2 := hI.up
  obtain ⟨hIC, hIM, hIP, hIZ, hIR, hIY, hIW, hIT, hIF, hIL, hIS⟩ := id hI
  obtain ⟨e1, e2, e3, e4, e5, e6, r1, r2, r3, r4⟩ := hIL
  simp only [w_X11_place, w_X11_isSpot, w_X5_add, w_X12_place, w_X12_isSpot, wi_eq, wm_eq, forall_eq, rdI, rdU, rdI2, rdJ, rdJ1, rdN, rdN1, rdD, rdD2, rdD3, Nat.reduceEqDiff, and_self, and_true, true_and, and_false, false_and, if_true, if_false, reduceIte, Nat.zero_ne_one, Nat.one_ne_zero, i1n0, i0e0, not_true, not_false_iff, false_implies, true_implies, implies_true, ← e1]
  by_cases h1 : wi x1 0 40 <;> by_cases h2 : wi x2 0 40 <;> by_cases h3 : wi x3 0 999 <;> simp [h1, h2, h3]
  rotate_left
  iterate 7 exact hP _ _ hI2
  rcases cnt_cases (M := 8) (m := 8) rfl (by decide) e2 with ⟨h5, h6⟩ | ⟨h5, h6, h7, h8, h9, h10⟩
  · simp [h5, hP _ _ hI2]
  · have h11 : ¬ 8 ≤ s.1 0 34 4 := by rw [le_]; rw [lt_] at h5; omega
    simp [h5, h6, h7, h11]
    refine hP _ _ ⟨(IC.of rfl rfl rfl rfl rfl rfl rfl rfl rfl rfl hIC), (IM.of rfl rfl hIM), (IP.of rfl rfl rfl rfl rfl rfl rfl rfl rfl rfl hIP), (IZ.of rfl rfl rfl rfl hIZ), (IR.of rfl rfl rfl rfl rfl rfl rfl rfl rfl rfl rfl rfl rfl rfl hIR), (IY.of rfl rfl rfl rfl rfl rfl rfl rfl rfl rfl rfl rfl rfl rfl hIY), (IW.of rfl rfl rfl rfl rfl rfl rfl rfl rfl rfl rfl rfl rfl rfl rfl rfl rfl rfl rfl rfl rfl rfl rfl hIW.up), (IT.of rfl rfl rfl rfl rfl rfl rfl rfl rfl rfl rfl rfl hIT), (IF.of rfl rfl rfl rfl rfl rfl rfl rfl rfl rfl hIF), ?_, (IS.of rfl rfl rfl rfl rfl rfl rfl rfl rfl rfl rfl hIS)⟩
    exact ⟨rfl, h8, up_c e3, up_c e4, up_c e5, up_c e6, al_u r1 h1, al_u r2 h2, al_u r3 h3, al_u r4 (nar_b x4)⟩
theorem cs_stand {N k : Nat} {s : Sx} (hN : 20000 ≤ N) (hk : k ≤ 600) (hI : Inv k s) (x1 : Int32) (x2 : Int32) (x3 : Int32) (x4 : Int32) (P : Int32 → Int32 → Sx → Prop) (hP : ∀ r s', Inv (k + 1) s' → P r r s') : w_X11_stand N x1 x2 x3 x4 s (fun r s1 => w_X12_stand N x1 x2 x3 x4 s1 (fun r2 s2 => P r r2 s2)) := by
  have hI2 := hI.up
  obtain ⟨hIC, hIM, hIP, hIZ, hIR, hIY, hIW, hIT, hIF, hIL, hIS⟩ := id hI
  obtain ⟨e1, e2, e3, e4, e5, e6, r1, r2, r3, r4, r5⟩ := hIT
  simp only [w_X11_stand, w_X8_add, w_X12_stand, wi_eq, wm_eq, forall_eq, rdI, rdU, rdI2, rdJ, rdJ1, rdN, rdN1, rdD, rdD2, rdD3, Nat.reduceEqDiff, and_self, and_true, true_and, and_false, false_and, if_true, if_false, reduceIte, Nat.zero_ne_one, Nat.one_ne_zero, i1n0, i0e0, not_true, not_false_iff, false_implies, true_implies, implies_true, ← e1]
  by_cases h1 : wi x1 0 3 <;> by_cases h2 : wi x2 0 2 <;> by_cases h3 : wi x3 1 99999 <;> by_cases h4 : wi x4 0 60 <;> simp [h1, h2, h3, h4]
  rotate_left
  iterate 15 exact hP _ _ hI2
  rcases cnt_cases (M := 12) (m := 12) rfl (by decide) e2 with ⟨h5, h6⟩ | ⟨h5, h6, h7, h8, h9, h10⟩
  · simp [h5, hP _ _ hI2]
  · have h11 : ¬ 12 ≤ s.1 0 19 4 := by rw [le_]; rw [lt_] at h5; omega
    simp [h5, h6, h7, h11]
    refine hP _ _ ⟨(IC.of rfl rfl rfl rfl rfl rfl rfl rfl rfl rfl hIC), (IM.of rfl rfl hIM), (IP.of rfl rfl rfl rfl rfl rfl rfl rfl rfl rfl hIP), (IZ.of rfl rfl rfl rfl hIZ), (IR.of rfl rfl rfl rfl rfl rfl rfl rfl rfl rfl rfl rfl rfl rfl hIR), (IY.of rfl rfl rfl rfl rfl rfl rfl rfl rfl rfl rfl rfl rfl rfl hIY), (IW.of rfl rfl rfl rfl rfl rfl rfl rfl rfl rfl rfl rfl rfl rfl rfl rfl rfl rfl rfl rfl rfl rfl rfl hIW.up), ?_, (IF.of rfl rfl rfl rfl rfl rfl rfl rfl rfl rfl hIF), (IL.of rfl rfl rfl rfl rfl rfl rfl rfl rfl rfl hIL), (IS.of rfl rfl rfl rfl rfl rfl rfl rfl rfl rfl rfl hIS)⟩
    exact ⟨rfl, h8, up_c e3, up_c e4, up_c e5, up_c e6, al_u r1 h1, al_u r2 h2, al_u r3 (wi_m h3 (by decide) (by decide)), al_u r4 h4, r5⟩
