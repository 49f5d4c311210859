/-! the leaves -/
theorem mcamp_eq {N : Nat} {x : Int32} {s : Sx} {post : Int32 → Sx → Prop} (h : wi (s.1 6 0 5) 0 7) : w_X12_isCamp N x s post = ((wi x 0 (s.1 6 0 5 - 1) → post 1 s) ∧ (¬ wi x 0 (s.1 6 0 5 - 1) → post 0 s)) := mc_eq (M := 7) (by decide) h _ _
theorem mman_eq {N : Nat} {x : Int32} {s : Sx} {post : Int32 → Sx → Prop} (h : wi (s.1 6 0 9) 0 20) : w_X12_isMan N x s post = ((wi x 0 (s.1 6 0 9 - 1) → post 1 s) ∧ (¬ wi x 0 (s.1 6 0 9 - 1) → post 0 s)) := mc_eq (M := 20) (by decide) h _ _
theorem mpost_eq {N : Nat} {x : Int32} {s : Sx} {post : Int32 → Sx → Prop} (h : wi (s.1 6 0 10) 0 30) : w_X12_isPost N x s post = ((wi x 0 (s.1 6 0 10 - 1) → post 1 s) ∧ (¬ wi x 0 (s.1 6 0 10 - 1) → post 0 s)) := mc_eq (M := 30) (by decide) h _ _
theorem mwork_eq {N : Nat} {x : Int32} {s : Sx} {post : Int32 → Sx → Prop} (h : wi (s.1 6 0 35) 0 8) : w_X12_isWork N x s post = ((wi x 0 (s.1 6 0 35 - 1) → post 1 s) ∧ (¬ wi x 0 (s.1 6 0 35 - 1) → post 0 s)) := mc_eq (M := 8) (by decide) h _ _
theorem cs_camp {N k : Nat} {s : Sx} (hN : 20000 ≤ N) (hk : k ≤ 600) (hI : Inv k s) (x1 : Int32) (x2 : Int32) (x3 : Int32) (P : Int32 → Int32 → Sx → Prop) (hP : ∀ r s', Inv (k + 1) s' → P r r s') : w_X11_camp N x1 x2 x3 s (fun r s1 => w_X12_camp N x1 x2 x3 s1 (fun r2 s2 => P r r2 s2)) := by
  have hI2 := hI.up
  obtain ⟨hIC, hIM, hIP, hIZ, hIR, hIY, hIW, hIT, hIF, hIL, hIS⟩ := id hI
  obtain ⟨e1, e2, e3, e4, e5, e6, r1, r2, r3, r4, e8⟩ := hIC
  simp only [w_X11_camp, w_X11_isSpot, w_X12_camp, w_X12_isSpot, w_X0_add, wi_eq, wm_eq, forall_eq, rdI, rdU, rdI2, rdJ, rdJ1, rdN, rdN1, rdD, rdD2, rdD3, Nat.reduceEqDiff, and_self, and_true, true_and, and_false, false_and, if_true, if_false, reduceIte, Nat.zero_ne_one, Nat.one_ne_zero, i1n0, i0e0, not_true, not_false_iff, false_implies, true_implies, implies_true, ← e1]
  by_cases h1 : wi x1 0 40 <;> by_cases h2 : wi x2 0 40 <;> by_cases h3 : wi x3 1 9 <;> simp [h1, h2, h3]
  rotate_left
  iterate 7 exact hP _ _ hI2
  rcases cnt_cases (M := 7) (m := 7) rfl (by decide) e2 with ⟨h4, h5⟩ | ⟨h4, h5, h6, h7, h8, h9⟩
  · simp [h4, hP _ _ hI2]
  · have h10 : ¬ 7 ≤ s.1 0 1 4 := by rw [le_]; rw [lt_] at h4; omega
    simp [h4, h5, h6, h10]
    refine hP _ _ ⟨?_, (IM.of rfl rfl hIM), (IP.of rfl rfl rfl rfl rfl rfl rfl rfl rfl rfl hIP), (IZ.of rfl rfl rfl rfl hIZ), (IR.of rfl rfl rfl rfl rfl rfl rfl rfl rfl rfl rfl rfl rfl rfl hIR), (IY.of rfl rfl rfl rfl rfl rfl rfl rfl rfl rfl rfl rfl rfl rfl hIY), (IW.of rfl rfl rfl rfl rfl rfl rfl rfl rfl rfl rfl rfl rfl rfl rfl rfl rfl rfl rfl rfl rfl rfl rfl hIW.up), (IT.of rfl rfl rfl rfl rfl rfl rfl rfl rfl rfl rfl rfl hIT), (IF.of rfl rfl rfl rfl rfl rfl rfl rfl rfl rfl hIF), (IL.of rfl rfl rfl rfl rfl rfl rfl rfl rfl rfl hIL), (IS.of rfl rfl rfl rfl rfl rfl rfl rfl rfl rfl rfl hIS)⟩
    refine ⟨rfl, h7, up_c e3, up_c e4, up_c e5, ?_, al_u r1 h1, al_u r2 h2, al_u r3 (wi_m h3 (by decide) (by decide)), r4, ?_⟩
    · show s.1 0 5 = upd (s.1 5 60) _ 0
      rw [← e6]
      funext i
      show _ = if i = _ then 0 else s.1 0 5 i
      by_cases hi : i = (s.1 0 1 4).toNatClampNeg
      · rw [if_pos hi]; exact e8 i (by omega)
      · rw [if_neg hi]
    · intro i hi
      exact e8 i (by have hi2 : (s.1 0 1 4 + 1).toNatClampNeg ≤ i := hi; omega)
theorem cs_man {N k : Nat} {s : Sx} (hN : 20000 ≤ N) (hk : k ≤ 600) (hI : Inv k s)  (P : Int32 → Int32 → Sx → Prop) (hP : ∀ r s', Inv (k + 1) s' → P r r s') : w_X11_man N  s (fun r s1 => w_X12_man N  s1 (fun r2 s2 => P r r2 s2)) := by
  have hI2 := hI.up
  obtain ⟨hIC, hIM, hIP, hIZ, hIR, hIY, hIW, hIT, hIF, hIL, hIS⟩ := id hI
  obtain ⟨e1, e2⟩ := hIM
  simp only [w_X11_man, w_X12_man, wi_eq, wm_eq, forall_eq, rdI, rdU, rdI2, rdJ, rdJ1, rdN, rdN1, rdD, rdD2, rdD3, Nat.reduceEqDiff, and_self, and_true, true_and, and_false, false_and, if_true, if_false, reduceIte, Nat.zero_ne_one, Nat.one_ne_zero, i1n0, i0e0, not_true, not_false_iff, false_implies, true_implies, implies_true, ← e1]
  rcases cnt_cases (M := 20) (m := 20) rfl (by decide) e2 with ⟨h4, h5⟩ | ⟨h4, h5, h6, h7, h8, h9⟩
  · simp [h4, hP _ _ hI2]
  · have h10 : ¬ 20 ≤ s.1 0 0 1 := by rw [le_]; rw [lt_] at h4; omega
    simp [h4, h5, h10]
    refine hP _ _ ⟨(IC.of rfl rfl rfl rfl rfl rfl rfl rfl rfl rfl hIC), ?_, (IP.of rfl rfl rfl rfl rfl rfl rfl rfl rfl rfl hIP), (IZ.of rfl rfl rfl rfl hIZ), (IR.of rfl rfl rfl rfl rfl rfl rfl rfl rfl rfl rfl rfl rfl rfl hIR), (IY.of rfl rfl rfl rfl rfl rfl rfl rfl rfl rfl rfl rfl rfl rfl hIY), (IW.of rfl rfl rfl rfl rfl rfl rfl rfl rfl rfl rfl rfl rfl rfl rfl rfl rfl rfl rfl rfl rfl rfl rfl hIW.up), (IT.of rfl rfl rfl rfl rfl rfl rfl rfl rfl rfl rfl rfl hIT), (IF.of rfl rfl rfl rfl rfl rfl rfl rfl rfl rfl hIF), (IL.of rfl rfl rfl rfl rfl rfl rfl rfl rfl rfl hIL), (IS.of rfl rfl rfl rfl rfl rfl rfl rfl rfl rfl rfl hIS)⟩
    exact ⟨rfl, h7⟩
theorem cs_spot {N k : Nat} {s : Sx} (hN : 20000 ≤ N) (hk : k ≤ 600) (hI : Inv k s) (x1 : Int32) (x2 : Int32) (P : Int32 → Int32 → Sx → Prop) (hP : ∀ r s', Inv (k + 1) s' → P r r s') : w_X11_spot N x1 x2 s (fun r s1 => w_X12_spot N x1 x2 s1 (fun r2 s2 => P r r2 s2)) := by
  have hI2 := hI.up
  obtain ⟨hIC, hIM, hIP, hIZ, hIR, hIY, hIW, hIT, hIF, hIL, hIS⟩ := id hI
  obtain ⟨e1, e2, e3, e4, e5, e6, r1, r2, r3, r4, e8⟩ := hIC
  simp only [w_X11_spot, w_X0_has, w_X12_spot, wi_eq, wm_eq, forall_eq, rdI, rdU, rdI2, rdJ, rdJ1, rdN, rdN1, rdD, rdD2, rdD3, Nat.reduceEqDiff, and_self, and_true, true_and, and_false, false_and, if_true, if_false, reduceIte, Nat.zero_ne_one, Nat.one_ne_zero, i1n0, i0e0, not_true, not_false_iff, false_implies, true_implies, implies_true, mcamp_eq, e2, ← e1]
  by_cases h1 : wi x1 0 (s.1 0 1 4 - 1)
  · obtain ⟨j, rfl, hj1, hj2, hj3, hj4⟩ := inC (M := 7) (by decide) e2 h1
    by_cases h2 : x2 = 0 <;> by_cases h3 : x2 = 1 <;> simp [h1, h2, h3, hj3, e3, e4, hP _ _ hI2]
  · simp [h1, hP _ _ hI2]
theorem cs_crew {N k : Nat} {s : Sx} (hN : 20000 ≤ N) (hk : k ≤ 600) (hI : Inv k s) (x1 : Int32) (x2 : Int32) (P : Int32 → Int32 → Sx → Prop) (hP : ∀ r s', Inv (k + 1) s' → P r r s') : w_X11_crew N x1 x2 s (fun r s1 => w_X12_crew N x1 x2 s1 (fun r2 s2 => P r r2 s2)) := by
  have hI2 := hI.up
  obtain ⟨hIC, hIM, hIP, hIZ, hIR, hIY, hIW, hIT, hIF, hIL, hIS⟩ := id hI
  obtain ⟨e1, e2, e3, e4, e5, e6, r1, r2, r3, r4, e8⟩ := hIC
  simp only [w_X11_crew, w_X0_has, w_X12_crew, wi_eq, wm_eq, forall_eq, rdI, rdU, rdI2, rdJ, rdJ1, rdN, rdN1, rdD, rdD2, rdD3, Nat.reduceEqDiff, and_self, and_true, true_and, and_false, false_and, if_true, if_false, reduceIte, Nat.zero_ne_one, Nat.one_ne_zero, i1n0, i0e0, not_true, not_false_iff, false_implies, true_implies, implies_true, mcamp_eq, e2, ← e1]
  by_cases h1 : wi x1 0 (s.1 0 1 4 - 1)
  · obtain ⟨j, rfl, hj1, hj2, hj3, hj4⟩ := inC (M := 7) (by decide) e2 h1
    by_cases h2 : wi x2 0 9
    · simp [h1, h2, hj3, e6]
      refine hP _ _ ⟨?_, (IM.of rfl rfl hIM), (IP.of rfl rfl rfl rfl rfl rfl rfl rfl rfl rfl hIP), (IZ.of rfl rfl rfl rfl hIZ), (IR.of rfl rfl rfl rfl rfl rfl rfl rfl rfl rfl rfl rfl rfl rfl hIR), (IY.of rfl rfl rfl rfl rfl rfl rfl rfl rfl rfl rfl rfl rfl rfl hIY), (IW.of rfl rfl rfl rfl rfl rfl rfl rfl rfl rfl rfl rfl rfl rfl rfl rfl rfl rfl rfl rfl rfl rfl rfl hIW.up), (IT.of rfl rfl rfl rfl rfl rfl rfl rfl rfl rfl rfl rfl hIT), (IF.of rfl rfl rfl rfl rfl rfl rfl rfl rfl rfl hIF), (IL.of rfl rfl rfl rfl rfl rfl rfl rfl rfl rfl hIL), (IS.of rfl rfl rfl rfl rfl rfl rfl rfl rfl rfl rfl hIS)⟩
      refine ⟨e1, e2, e3, e4, e5, ?_, r1, r2, r3, al_u r4 h2, ?_⟩
      · show upd (s.1 0 5) _ _ = upd (s.1 5 60) _ _; rw [e6]
      intro i hi
      show (if i = _ then _ else s.1 0 5 i) = 0
      rw [if_neg (by have hi2 : (s.1 0 1 4).toNatClampNeg ≤ i := hi; omega)]
      exact e8 i hi
    · simp [h1, h2, hP _ _ hI2]
  · simp [h1, hP _ _ hI2]
theorem cs_trace {N k : Nat} {s : Sx} (hN : 20000 ≤ N) (hk : k ≤ 600) (hI : Inv k s)  (P : Int32 → Int32 → Sx → Prop) (hP : ∀ r s', Inv (k + 1) s' → P r r s') : w_X11_trace N  s (fun r s1 => w_X12_trace N  s1 (fun r2 s2 => P r r2 s2)) := by
  have hI2 := hI.up
  obtain ⟨hIC, hIM, hIP, hIZ, hIR, hIY, hIW, hIT, hIF, hIL, hIS⟩ := id hI
  simp only [w_X11_trace, w_X12_trace, hIZ.1]
  exact hP _ _ hI2
theorem cs_fault {N k : Nat} {s : Sx} (hN : 20000 ≤ N) (hk : k ≤ 600) (hI : Inv k s)  (P : Int32 → Int32 → Sx → Prop) (hP : ∀ r s', Inv (k + 1) s' → P r r s') : w_X11_fault N  s (fun r s1 => w_X12_fault N  s1 (fun r2 s2 => P r r2 s2)) := by
  have hI2 := hI.up
  obtain ⟨hIC, hIM, hIP, hIZ, hIR, hIY, hIW, hIT, hIF, hIL, hIS⟩ := id hI
  simp only [w_X11_fault, w_X12_fault, hIZ.2]
  exact hP _ _ hI2
theorem cs_many {N k : Nat} {s : Sx} (hN : 20000 ≤ N) (hk : k ≤ 600) (hI : Inv k s) (x1 : Int32) (P : Int32 → Int32 → Sx → Prop) (hP : ∀ r s', Inv (k + 1) s' → P r r s') : w_X11_many N x1 s (fun r s1 => w_X12_many N x1 s1 (fun r2 s2 => P r r2 s2)) := by
  have hI2 := hI.up
  obtain ⟨hIC, hIM, hIP, hIZ, hIR, hIY, hIW, hIT, hIF, hIL, hIS⟩ := id hI
  simp only [w_X11_many, w_X12_many, ← hIC.1, ← hIM.1, ← hIP.1, ← hIR.1, ← hIY.2.2.2.2.2.2.1, ← hIW.1, ← hIW.2.2.2.2.2.2.2.2.2.1, ← hIT.1, ← hIF.1, ← hIL.1]
  by_cases h0 : x1 = 0
  · simp [h0, hP _ _ hI2]
  by_cases h1 : x1 = 1
  · simp [h1, hP _ _ hI2]
  by_cases h2 : x1 = 2
  · simp [h2, hP _ _ hI2]
  by_cases h3 : x1 = 3
  · simp [h3, hP _ _ hI2]
  by_cases h4 : x1 = 4
  · simp [h4, hP _ _ hI2]
  by_cases h5 : x1 = 5
  · simp [h5, hP _ _ hI2]
  by_cases h6 : x1 = 6
  · simp [h6, hP _ _ hI2]
  by_cases h7 : x1 = 7
  · simp [h7, hP _ _ hI2]
  by_cases h8 : x1 = 8
  · simp [h8, hP _ _ hI2]
  by_cases h9 : x1 = 9
  · simp [h9, hP _ _ hI2]
  simp [h0, h1, h2, h3, h4, h5, h6, h7, h8, h9, hP _ _ hI2]
theorem wi_in {x : Int32} {M m : Nat} (hM : M < 2 ^ 30) (h : wi x 0 (nI M)) (hm : M < m) (hm2 : m < 2 ^ 30) : vp_in x m := by
  obtain ⟨j, hj, rfl⟩ := wi_n (by omega) h
  exact vp_in_nI (by omega) (by omega)
theorem cs_rate {N k : Nat} {s : Sx} (hN : 20000 ≤ N) (hk : k ≤ 600) (hI : Inv k s) (x1 : Int32) (x2 : Int32) (P : Int32 → Int32 → Sx → Prop) (hP : ∀ r s', Inv (k + 1) s' → P r r s') : w_X11_rate N x1 x2 s (fun r s1 => w_X12_rate N x1 x2 s1 (fun r2 s2 => P r r2 s2)) := by
  have hI2 := hI.up
  obtain ⟨hIC, hIM, hIP, hIZ, hIR, hIY, hIW, hIT, hIF, hIL, hIS⟩ := id hI
  obtain ⟨e1, e2, e3, e4, e5, e6, e7, e8, e9, e10, e11, e12⟩ := hIY
  simp only [w_X11_rate, w_X11_isKind, w_X12_rate, wi_eq, wm_eq, forall_eq, rdI, rdU, rdI2, rdJ, rdJ1, rdN, rdN1, rdD, rdD2, rdD3, Nat.reduceEqDiff, and_self, and_true, true_and, and_false, false_and, if_true, if_false, reduceIte, Nat.zero_ne_one, Nat.one_ne_zero, i1n0, i0e0, not_true, not_false_iff, false_implies, true_implies, implies_true]
  by_cases h1 : wi x1 0 2
  · have hv := wi_in (M := 2) (m := 3) (by decide) h1 (by decide) (by decide)
    by_cases h2 : wi x2 0 999
    · simp [h1, h2, hv, e1]
      refine hP _ _ ⟨(IC.of rfl rfl rfl rfl rfl rfl rfl rfl rfl rfl hIC), (IM.of rfl rfl hIM), (IP.of rfl rfl rfl rfl rfl rfl rfl rfl rfl rfl hIP), (IZ.of rfl rfl rfl rfl hIZ), (IR.of rfl rfl rfl rfl rfl rfl rfl rfl rfl rfl rfl rfl rfl rfl hIR), ?_, (IW.of rfl rfl rfl rfl rfl rfl rfl rfl rfl rfl rfl rfl rfl rfl rfl rfl rfl rfl rfl rfl rfl rfl rfl hIW.up), (IT.of rfl rfl rfl rfl rfl rfl rfl rfl rfl rfl rfl rfl hIT), (IF.of rfl rfl rfl rfl rfl rfl rfl rfl rfl rfl hIF), (IL.of rfl rfl rfl rfl rfl rfl rfl rfl rfl rfl hIL), (IS.of rfl rfl rfl rfl rfl rfl rfl rfl rfl rfl rfl hIS)⟩
      exact ⟨up_c e1, al_u e2 h2, e3, e4, e5, e6, e7, e8, e9, e10, e11, e12⟩
    · simp [h1, h2, hP _ _ hI2]
  · simp [h1, hP _ _ hI2]
theorem cs_home {N k : Nat} {s : Sx} (hN : 20000 ≤ N) (hk : k ≤ 600) (hI : Inv k s) (x1 : Int32) (x2 : Int32) (P : Int32 → Int32 → Sx → Prop) (hP : ∀ r s', Inv (k + 1) s' → P r r s') : w_X11_home N x1 x2 s (fun r s1 => w_X12_home N x1 x2 s1 (fun r2 s2 => P r r2 s2)) := by
  have hI2 := hI.up
  obtain ⟨hIC, hIM, hIP, hIZ, hIR, hIY, hIW, hIT, hIF, hIL, hIS⟩ := id hI
  obtain ⟨e1, e2, e3, e4, e5, e6, e7, e8, e9, e10, e11, e12⟩ := hIY
  simp only [w_X11_home, w_X4_changeHome, w_X4_changeHome_16, w_X4_changeHome_21, w_X12_home, w_X12_home_42, w_X12_home_43, wi_eq, wm_eq, forall_eq, rdI, rdU, rdI2, rdJ, rdJ1, rdN, rdN1, rdD, rdD2, rdD3, Nat.reduceEqDiff, and_self, and_true, true_and, and_false, false_and, if_true, if_false, reduceIte, Nat.zero_ne_one, Nat.one_ne_zero, i1n0, i0e0, not_true, not_false_iff, false_implies, true_implies, implies_true, ← e3, ← e4]
  have key : ∀ r : Int32, wi x2 1 100 → wi x1 0 x2 → P r r (setI (setI (setI (setI s 0 9 1 x1) 0 9 2 x2) 6 0 29 x1) 6 0 30 x2) := by
    intro r h1 h2
    refine hP _ _ ⟨(IC.of rfl rfl rfl rfl rfl rfl rfl rfl rfl rfl hIC), (IM.of rfl rfl hIM), (IP.of rfl rfl rfl rfl rfl rfl rfl rfl rfl rfl hIP), (IZ.of rfl rfl rfl rfl hIZ), (IR.of rfl rfl rfl rfl rfl rfl rfl rfl rfl rfl rfl rfl rfl rfl hIR), ?_, (IW.of rfl rfl rfl rfl rfl rfl rfl rfl rfl rfl rfl rfl rfl rfl rfl rfl rfl rfl rfl rfl rfl rfl rfl hIW.up), (IT.of rfl rfl rfl rfl rfl rfl rfl rfl rfl rfl rfl rfl hIT), (IF.of rfl rfl rfl rfl rfl rfl rfl rfl rfl rfl hIF), (IL.of rfl rfl rfl rfl rfl rfl rfl rfl rfl rfl hIL), (IS.of rfl rfl rfl rfl rfl rfl rfl rfl rfl rfl rfl hIS)⟩
    exact ⟨e1, e2, rfl, rfl, h1, h2, e7, e8, e9, e10, e11, e12⟩
  by_cases h1 : wi x2 1 100
  · by_cases h2 : wi x1 0 x2
    · skip
      by_cases h3a : s.1 0 9 1 = x1
      · have h3b : s.1 0 9 1 = x1 := h3a
        by_cases h4a : s.1 0 9 2 = x2
        · simp [h1, h2, h3a, h4a, key _ h1 h2]
        · have h4b : ¬ x2 = s.1 0 9 2 := fun e => h4a e.symm
          simp [h1, h2, h3a, h4a, h4b, key _ h1 h2]
      · have h3b : ¬ x1 = s.1 0 9 1 := fun e => h3a e.symm
        simp [h1, h2, h3a, h3b, key _ h1 h2]
    · simp [h1, h2, hP _ _ hI2]
  · simp [h1, hP _ _ hI2]
theorem cs_delay {N k : Nat} {s : Sx} (hN : 20000 ≤ N) (hk : k ≤ 600) (hI : Inv k s) (x1 : Int32) (x2 : Int32) (P : Int32 → Int32 → Sx → Prop) (hP : ∀ r s', Inv (k + 1) s' → P r r s') : w_X11_delay N x1 x2 s (fun r s1 => w_X12_delay N x1 x2 s1 (fun r2 s2 => P r r2 s2)) := by
  have hI2 := hI.up
  obtain ⟨hIC, hIM, hIP, hIZ, hIR, hIY, hIW, hIT, hIF, hIL, hIS⟩ := id hI
  obtain ⟨e1, e2, e3, e4, e5, e6, e7⟩ := hIR
  simp only [w_X11_delay, w_X11_isOffice, w_X12_delay, w_X12_isOffice, wi_eq, wm_eq, forall_eq, rdI, rdU, rdI2, rdJ, rdJ1, rdN, rdN1, rdD, rdD2, rdD3, Nat.reduceEqDiff, and_self, and_true, true_and, and_false, false_and, if_true, if_false, reduceIte, Nat.zero_ne_one, Nat.one_ne_zero, i1n0, i0e0, not_true, not_false_iff, false_implies, true_implies, implies_true]
  by_cases h1 : wi x1 0 4
  · have hv := wi_in (M := 4) (m := 5) (by decide) h1 (by decide) (by decide)
    by_cases h2 : wi x2 0 30
    · simp [h1, h2, hv, e6]
      refine hP _ _ ⟨(IC.of rfl rfl rfl rfl rfl rfl rfl rfl rfl rfl hIC), (IM.of rfl rfl hIM), (IP.of rfl rfl rfl rfl rfl rfl rfl rfl rfl rfl hIP), (IZ.of rfl rfl rfl rfl hIZ), ?_, (IY.of rfl rfl rfl rfl rfl rfl rfl rfl rfl rfl rfl rfl rfl rfl hIY), (IW.of rfl rfl rfl rfl rfl rfl rfl rfl rfl rfl rfl rfl rfl rfl rfl rfl rfl rfl rfl rfl rfl rfl rfl hIW.up), (IT.of rfl rfl rfl rfl rfl rfl rfl rfl rfl rfl rfl rfl hIT), (IF.of rfl rfl rfl rfl rfl rfl rfl rfl rfl rfl hIF), (IL.of rfl rfl rfl rfl rfl rfl rfl rfl rfl rfl hIL), (IS.of rfl rfl rfl rfl rfl rfl rfl rfl rfl rfl rfl hIS)⟩
      exact ⟨e1, e2, e3, e4, e5, up_c e6, al_u e7 h2⟩
    · simp [h1, h2, hP _ _ hI2]
  · simp [h1, hP _ _ hI2]
theorem cs_fine {N k : Nat} {s : Sx} (hN : 20000 ≤ N) (hk : k ≤ 600) (hI : Inv k s) (x1 : Int32) (x2 : Int32) (x3 : Int32) (P : Int32 → Int32 → Sx → Prop) (hP : ∀ r s', Inv (k + 1) s' → P r r s') : w_X11_fine N x1 x2 x3 s (fun r s1 => w_X12_fine N x1 x2 x3 s1 (fun r2 s2 => P r r2 s2)) := by
  have hI2 := hI.up
  obtain ⟨hIC, hIM, hIP, hIZ, hIR, hIY, hIW, hIT, hIF, hIL, hIS⟩ := id hI
  obtain ⟨m1, m2⟩ := id hIM
  obtain ⟨e1, e2, e3, e4, e5, e6, e7, e8, e9, e10, e11, e12⟩ := hIY
  simp only [w_X11_fine, w_X11_isMan, w_X11_isDay, w_X4_addFine, w_X12_fine, w_X12_isDay, wi_eq, wm_eq, forall_eq, rdI, rdU, rdI2, rdJ, rdJ1, rdN, rdN1, rdD, rdD2, rdD3, Nat.reduceEqDiff, and_self, and_true, true_and, and_false, false_and, if_true, if_false, reduceIte, Nat.zero_ne_one, Nat.one_ne_zero, i1n0, i0e0, not_true, not_false_iff, false_implies, true_implies, implies_true, mman_eq, m2, ← m1, ← e7]
  by_cases h1 : wi x1 0 (s.1 0 0 1 - 1) <;> by_cases h2 : wi x2 0 399 <;> by_cases h3 : wi x3 1 9999 <;> simp [h1, h2, h3]
  rotate_left
  iterate 7 exact hP _ _ hI2
  rcases cnt_cases (M := 30) (m := 30) rfl (by decide) e8 with ⟨h4, h5⟩ | ⟨h4, h5, h6, h7, h8, h9⟩
  · simp [h4, hP _ _ hI2]
  · have h10 : ¬ 30 ≤ s.1 0 9 6 := by rw [le_]; rw [lt_] at h4; omega
    simp [h4, h5, h6, h10]
    refine hP _ _ ⟨(IC.of rfl rfl rfl rfl rfl rfl rfl rfl rfl rfl hIC), (IM.of rfl rfl hIM), (IP.of rfl rfl rfl rfl rfl rfl rfl rfl rfl rfl hIP), (IZ.of rfl rfl rfl rfl hIZ), (IR.of rfl rfl rfl rfl rfl rfl rfl rfl rfl rfl rfl rfl rfl rfl hIR), ?_, (IW.of rfl rfl rfl rfl rfl rfl rfl rfl rfl rfl rfl rfl rfl rfl rfl rfl rfl rfl rfl rfl rfl rfl rfl hIW.up), (IT.of rfl rfl rfl rfl rfl rfl rfl rfl rfl rfl rfl rfl hIT), (IF.of rfl rfl rfl rfl rfl rfl rfl rfl rfl rfl hIF), (IL.of rfl rfl rfl rfl rfl rfl rfl rfl rfl rfl hIL), (IS.of rfl rfl rfl rfl rfl rfl rfl rfl rfl rfl rfl hIS)⟩
    exact ⟨e1, e2, e3, e4, e5, e6, rfl, h7, up_c e9, up_c e10, up_c e11, al_u e12 (wi_m h3 (by decide) (by decide))⟩
theorem cs_level {N k : Nat} {s : Sx} (hN : 20000 ≤ N) (hk : k ≤ 600) (hI : Inv k s) (x1 : Int32) (x2 : Int32) (x3 : Int32) (P : Int32 → Int32 → Sx → Prop) (hP : ∀ r s', Inv (k + 1) s' → P r r s') : w_X11_level N x1 x2 x3 s (fun r s1 => w_X12_level N x1 x2 x3 s1 (fun r2 s2 => P r r2 s2)) := by
  have hI2 := hI.up
  obtain ⟨hIC, hIM, hIP, hIZ, hIR, hIY, hIW, hIT, hIF, hIL, hIS⟩ := id hI
  obtain ⟨e1, e2, e3, e4, e5, e6, e7, e8, e9, e10, e11, e12, e13, e14, e15, e16⟩ := hIW.up
  simp only [w_X11_level, w_X10_changeLevel, w_X10_changeLevel_20, w_X10_changeLevel_25, w_X12_level, w_X12_level_56, w_X12_level_57, wi_eq, wm_eq, forall_eq, rdI, rdU, rdI2, rdJ, rdJ1, rdN, rdN1, rdD, rdD2, rdD3, Nat.reduceEqDiff, and_self, and_true, true_and, and_false, false_and, if_true, if_false, reduceIte, Nat.zero_ne_one, Nat.one_ne_zero, i1n0, i0e0, not_true, not_false_iff, false_implies, true_implies, implies_true, ← e13, ← e14]
  by_cases h1 : wi x1 0 4
  · have hv := wi_in (M := 4) (m := 5) (by decide) h1 (by decide) (by decide)
    obtain ⟨j, hj, rfl⟩ := wi_n (n := 4) (by decide) h1
    by_cases h2 : wi x2 0 99
    · by_cases h3 : wi x3 1 99
      · have key : ∀ r : Int32, P r r (setI (setI (setI (setI s 0 17 (nI j).toNatClampNeg x2) 0 18 (nI j).toNatClampNeg x3) 5 47 (nI j).toNatClampNeg x2) 5 48 (nI j).toNatClampNeg x3) := by
          intro r
          refine hP _ _ ⟨(IC.of rfl rfl rfl rfl rfl rfl rfl rfl rfl rfl hIC), (IM.of rfl rfl hIM), (IP.of rfl rfl rfl rfl rfl rfl rfl rfl rfl rfl hIP), (IZ.of rfl rfl rfl rfl hIZ), (IR.of rfl rfl rfl rfl rfl rfl rfl rfl rfl rfl rfl rfl rfl rfl hIR), (IY.of rfl rfl rfl rfl rfl rfl rfl rfl rfl rfl rfl rfl rfl rfl hIY), ?_, (IT.of rfl rfl rfl rfl rfl rfl rfl rfl rfl rfl rfl rfl hIT), (IF.of rfl rfl rfl rfl rfl rfl rfl rfl rfl rfl hIF), (IL.of rfl rfl rfl rfl rfl rfl rfl rfl rfl rfl hIL), (IS.of rfl rfl rfl rfl rfl rfl rfl rfl rfl rfl rfl hIS)⟩
          refine ⟨e1, e2, e3, e4, e5, e6, e7, e8, e9, e10, e11, e12, up_c e13, up_c e14, al_u e15 h2, fun i hi => ?_⟩
          show wi (if i = _ then x3 else s.1 0 18 i) 1 99
          by_cases hh : i = (nI j).toNatClampNeg
          · rw [if_pos hh]; exact h3
          · rw [if_neg hh]; exact e16 i hi
        by_cases h3a : s.1 0 17 (nI j).toNatClampNeg = x2
        · have h3b : s.1 0 17 (nI j).toNatClampNeg = x2 := h3a
          by_cases h4a : s.1 0 18 (nI j).toNatClampNeg = x3
          · simp [h1, h2, h3, hv, h3a, h4a, key]
          · have h4b : ¬ x3 = s.1 0 18 (nI j).toNatClampNeg := fun e => h4a e.symm
            simp [h1, h2, h3, hv, h3a, h4a, h4b, key]
        · have h3b : ¬ x2 = s.1 0 17 (nI j).toNatClampNeg := fun e => h3a e.symm
          simp [h1, h2, h3, hv, h3a, h3b, key]
      · simp [h1, h2, h3, hP _ _ hI2]
    · simp [h1, h2, hP _ _ hI2]
  · simp [h1, hP _ _ hI2]
