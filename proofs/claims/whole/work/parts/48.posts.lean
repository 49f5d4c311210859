theorem at_eq {x : Int32} {n M : Nat} (hn : n ≤ M) (hM : M < 2 ^ 30) (hM0 : 0 < M) (A B : Prop) : ((wi x 0 (nI (M - 1)) → vp_in x M ∧ (¬ x.toNatClampNeg < n → B) ∧ (x.toNatClampNeg < n → A)) ∧ (¬ wi x 0 (nI (M - 1)) → B)) = ((wi x 0 (nI n - 1) → A) ∧ (¬ wi x 0 (nI n - 1) → B)) := by
  have hs : (nI n - 1).toInt = (n : Int) - 1 := by
    rw [Int32.toInt_sub, nI_toInt (by omega)]
    show ((n : Int) - (1 : Int32).toInt).bmod _ = _
    rw [show (1 : Int32).toInt = 1 from by decide, Int.bmod_eq_of_le] <;> omega
  have z : (0 : Int32).toInt = 0 := by decide
  by_cases h1 : wi x 0 (nI (M - 1))
  · obtain ⟨j, hj, rfl⟩ := wi_n (by omega) h1
    have h2 : vp_in (nI j) M := vp_in_nI (by omega) (by omega)
    rw [nI_clamp (by omega)]
    by_cases h3 : j < n
    · have h4 : wi (nI j) 0 (nI n - 1) := by rw [wi_i, hs, z, nI_toInt (by omega)]; omega
      simp [h1, h2, h3, h4]
    · have h4 : ¬ wi (nI j) 0 (nI n - 1) := by rw [wi_i, hs, z, nI_toInt (by omega)]; omega
      simp [h1, h2, h3, h4]
  · have h4 : ¬ wi x 0 (nI n - 1) := by
      intro h
      apply h1
      rw [wi_i, hs, z] at h
      rw [wi_i, z, nI_toInt (by omega)]
      omega
    simp [h1, h4]
theorem postAt_eq {N : Nat} {x : Int32} {s : Sx} {post : Option Nat → Sx → Prop} (h : s.2.2 1 ≤ 30) : w_X11_postAt N x s post = ((wi x 0 (nI (s.2.2 1) - 1) → post (some x.toNatClampNeg) s) ∧ (¬ wi x 0 (nI (s.2.2 1) - 1) → post none s)) := by
  rw [← at_eq (M := 30) h (by decide) (by decide)]
  simp only [w_X11_postAt, wi_eq, true_implies, false_implies, implies_true, not_true_eq_false, not_false_eq_true, not_true, not_false_iff, and_true, true_and, and_false, false_and, true_or, or_true, i1n0, i0e0]
  rfl
theorem workAt_eq {N : Nat} {x : Int32} {s : Sx} {post : Option Nat → Sx → Prop} (h : s.2.2 5 ≤ 8) : w_X10_at N x s post = ((wi x 0 (nI (s.2.2 5) - 1) → post (some x.toNatClampNeg) s) ∧ (¬ wi x 0 (nI (s.2.2 5) - 1) → post none s)) := by
  rw [← at_eq (M := 8) h (by decide) (by decide)]
  simp only [w_X10_at, wi_eq, true_implies, false_implies, implies_true, not_true_eq_false, not_false_eq_true, not_true, not_false_iff, and_true, true_and, and_false, false_and, true_or, or_true, i1n0, i0e0]
  rfl
theorem orderAt_eq {N : Nat} {x : Int32} {s : Sx} {post : Option Nat → Sx → Prop} (h : s.2.2 3 ≤ 12) : w_X11_orderAt N x s post = ((wi x 0 (nI (s.2.2 3) - 1) → post (some x.toNatClampNeg) s) ∧ (¬ wi x 0 (nI (s.2.2 3) - 1) → post none s)) := by
  rw [← at_eq (M := 12) h (by decide) (by decide)]
  simp only [w_X11_orderAt, wi_eq, true_implies, false_implies, implies_true, not_true_eq_false, not_false_eq_true, not_true, not_false_iff, and_true, true_and, and_false, false_and, true_or, or_true, i1n0, i0e0]
  rfl
theorem so_n {j : Nat} : (some j = (none : Option Nat)) = False := by simp
theorem so_s {j : Nat} {B : Nat → Prop} : (∀ y, some j = some y → B y) = B j := by simp
theorem no_s {B : Nat → Prop} : (∀ y, (none : Option Nat) = some y → B y) = True := by simp
/-- the post's days, as the class has them -/
theorem days_all {N p : Nat} {s S : Sx} {post : Int32 → Sx → Prop} (hI : IP s) (hp : p < s.2.2 0) (h1 : S.1 1 = s.1 1) (h2 : S.2.2 0 = s.2.2 0) (hpost : post (s.1 1 p 4 - s.1 1 p 3 + 1) S) : w_X6_daysIn N p 0 399 S post := by
  obtain ⟨-, p1, p2, p3, p4⟩ := hI.2.2.2.2.1 p hp
  obtain ⟨a, ha, ea⟩ := wi_n (n := 399) (by decide) p2
  obtain ⟨b, hb, eb⟩ := wi_n (n := 399) (by decide) p3
  rw [ea, eb, nle (by omega) (by omega)] at p4
  have := daysIn_eq (N := N) (s := S) (post := post) (c := 0) (d := 399) (by rw [h2]; exact hp) (by rw [h1]; exact ea) (by rw [h1]; exact eb) ha hb (by omega) (by omega)
  rw [nI_0] at this
  rw [show (399 : Int32) = nI 399 from rfl, this]
  rw [eb, ea, pk_sub p4, nI_1] at hpost
  rw [show min b 399 + 1 - max a 0 = b - a + 1 by omega]
  exact hpost
theorem cs_roll {N k : Nat} {s : Sx} (hN : 20000 ≤ N) (hk : k ≤ 600) (hI : Inv k s) (x1 : Int32) (P : Int32 → Int32 → Sx → Prop) (hP : ∀ r s', Inv (k + 1) s' → P r r s') : w_X11_roll N x1 s (fun r s1 => w_X12_roll N x1 s1 (fun r2 s2 => P r r2 s2)) := by
  have hI2 := hI.up
  obtain ⟨hIC, hIM, hIP, hIZ, hIR, hIY, hIW, hIT, hIF, hIL, hIS⟩ := id hI
  obtain ⟨e1, e2, e3, e4, e5, e6⟩ := id hIP
  obtain ⟨z1, z2⟩ := id hIZ
  have hw : wi (nI (s.2.2 0)) 0 30 := wi_nI (M := 30) e4 (by decide)
  simp only [w_X11_roll, postAt_eq, e3, e4, w_X11_leaveInTrace, w_X12_roll, w_X12_roll_26, w_X12_begins, wi_eq, wm_eq, forall_eq, rdI, rdU, rdI2, rdJ, rdJ1, rdN, rdN1, rdD, rdD2, rdD3, Nat.reduceEqDiff, and_self, and_true, true_and, and_false, false_and, if_true, if_false, reduceIte, Nat.zero_ne_one, Nat.one_ne_zero, i1n0, i0e0, not_true, not_false_iff, false_implies, true_implies, implies_true, true_implies, false_implies, implies_true, not_true_eq_false, not_false_eq_true, not_true, not_false_iff, and_true, true_and, and_false, false_and, true_or, or_true, i1n0, i0e0, mpost_eq, ← e1, e2, hw, so_n, so_s, no_s, ← z1]
  by_cases h1 : wi x1 0 (nI (s.2.2 0) - 1)
  · obtain ⟨j, rfl, hj1, hj2, hj3, hj4⟩ := inC (M := 30) (by decide) hw h1
    rw [nI_clamp (by omega)] at hj1
    rw [hj4]
    obtain ⟨a1, a2, a3, a4, a5⟩ := (e5 j hj1).1
    rw [← a1]
    have key : ∀ (r b : Int32), P r r (setI (setI s 0 0 4 (31 * s.1 0 0 4 + b)) 6 0 1 (31 * s.1 0 0 4 + b)) := by
      intro r b
      refine hP _ _ ⟨(IC.of rfl rfl rfl rfl rfl rfl rfl rfl rfl rfl hIC), (IM.of rfl rfl hIM), (IP.of rfl rfl rfl rfl rfl rfl rfl rfl rfl rfl hIP), ?_, (IR.of rfl rfl rfl rfl rfl rfl rfl rfl rfl rfl rfl rfl rfl rfl hIR), (IY.of rfl rfl rfl rfl rfl rfl rfl rfl rfl rfl rfl rfl rfl rfl hIY), (IW.of rfl rfl rfl rfl rfl rfl rfl rfl rfl rfl rfl rfl rfl rfl rfl rfl rfl rfl rfl rfl rfl rfl rfl hIW.up), (IT.of rfl rfl rfl rfl rfl rfl rfl rfl rfl rfl rfl rfl hIT), (IF.of rfl rfl rfl rfl rfl rfl rfl rfl rfl rfl hIF), (IL.of rfl rfl rfl rfl rfl rfl rfl rfl rfl rfl hIL), (IS.of rfl rfl rfl rfl rfl rfl rfl rfl rfl rfl rfl hIS)⟩
      exact ⟨rfl, z2⟩
    by_cases h2 : s.1 1 j 0 = 2 <;> simp [h1, h2, hj3, hj1, key]
  · simp [h1, hP _ _ hI2]
theorem cs_as {N k : Nat} {s : Sx} (hN : 20000 ≤ N) (hk : k ≤ 600) (hI : Inv k s) (x1 : Int32) (x2 : Int32) (P : Int32 → Int32 → Sx → Prop) (hP : ∀ r s', Inv (k + 1) s' → P r r s') : w_X11_as N x1 x2 s (fun r s1 => w_X12_as N x1 x2 s1 (fun r2 s2 => P r r2 s2)) := by
  have hI2 := hI.up
  obtain ⟨hIC, hIM, hIP, hIZ, hIR, hIY, hIW, hIT, hIF, hIL, hIS⟩ := id hI
  obtain ⟨e1, e2, e3, e4, e5, e6⟩ := id hIP
  obtain ⟨z1, z2⟩ := id hIZ
  have hw : wi (nI (s.2.2 0)) 0 30 := wi_nI (M := 30) e4 (by decide)
  simp only [w_X11_as, postAt_eq, e3, e4, w_X11_isKind, w_X11_noteFault, w_X12_as, w_X12_fails, wi_eq, wm_eq, forall_eq, rdI, rdU, rdI2, rdJ, rdJ1, rdN, rdN1, rdD, rdD2, rdD3, Nat.reduceEqDiff, and_self, and_true, true_and, and_false, false_and, if_true, if_false, reduceIte, Nat.zero_ne_one, Nat.one_ne_zero, i1n0, i0e0, not_true, not_false_iff, false_implies, true_implies, implies_true, true_implies, false_implies, implies_true, not_true_eq_false, not_false_eq_true, not_true, not_false_iff, and_true, true_and, and_false, false_and, true_or, or_true, i1n0, i0e0, mpost_eq, ← e1, e2, hw, so_n, so_s, no_s]
  have k0 : ∀ (r b : Int32), P r r (setI (setI s 0 0 14 0) 6 0 0 0) := by
    intro r b
    refine hP _ _ ⟨(IC.of rfl rfl rfl rfl rfl rfl rfl rfl rfl rfl hIC), (IM.of rfl rfl hIM), (IP.of rfl rfl rfl rfl rfl rfl rfl rfl rfl rfl hIP), ?_, (IR.of rfl rfl rfl rfl rfl rfl rfl rfl rfl rfl rfl rfl rfl rfl hIR), (IY.of rfl rfl rfl rfl rfl rfl rfl rfl rfl rfl rfl rfl rfl rfl hIY), (IW.of rfl rfl rfl rfl rfl rfl rfl rfl rfl rfl rfl rfl rfl rfl rfl rfl rfl rfl rfl rfl rfl rfl rfl hIW.up), (IT.of rfl rfl rfl rfl rfl rfl rfl rfl rfl rfl rfl rfl hIT), (IF.of rfl rfl rfl rfl rfl rfl rfl rfl rfl rfl hIF), (IL.of rfl rfl rfl rfl rfl rfl rfl rfl rfl rfl hIL), (IS.of rfl rfl rfl rfl rfl rfl rfl rfl rfl rfl rfl hIS)⟩
    exact ⟨z1, rfl⟩
  by_cases h1 : wi x1 0 (nI (s.2.2 0) - 1)
  · obtain ⟨j, rfl, hj1, hj2, hj3, hj4⟩ := inC (M := 30) (by decide) hw h1
    rw [nI_clamp (by omega)] at hj1
    rw [hj4]
    obtain ⟨a1, a2, a3, a4, a5⟩ := (e5 j hj1).1
    rw [← a1]
    have key : ∀ (r b : Int32), P r r (setI (setI (setI (setI s 0 0 14 0) 0 0 14 b) 6 0 0 0) 6 0 0 b) := by
      intro r b
      refine hP _ _ ⟨(IC.of rfl rfl rfl rfl rfl rfl rfl rfl rfl rfl hIC), (IM.of rfl rfl hIM), (IP.of rfl rfl rfl rfl rfl rfl rfl rfl rfl rfl hIP), ?_, (IR.of rfl rfl rfl rfl rfl rfl rfl rfl rfl rfl rfl rfl rfl rfl hIR), (IY.of rfl rfl rfl rfl rfl rfl rfl rfl rfl rfl rfl rfl rfl rfl hIY), (IW.of rfl rfl rfl rfl rfl rfl rfl rfl rfl rfl rfl rfl rfl rfl rfl rfl rfl rfl rfl rfl rfl rfl rfl hIW.up), (IT.of rfl rfl rfl rfl rfl rfl rfl rfl rfl rfl rfl rfl hIT), (IF.of rfl rfl rfl rfl rfl rfl rfl rfl rfl rfl hIF), (IL.of rfl rfl rfl rfl rfl rfl rfl rfl rfl rfl hIL), (IS.of rfl rfl rfl rfl rfl rfl rfl rfl rfl rfl rfl hIS)⟩
      exact ⟨z1, rfl⟩
    by_cases h2 : wi x2 0 2
    · by_cases h3 : s.1 1 j 0 < x2
      · simp [h1, h2, h3, hj3, hj1, key]
      · simp only [h1, h2, h3, hj3, hj1, true_implies, false_implies, implies_true, not_true_eq_false, not_false_eq_true, not_true, not_false_iff, and_true, true_and, and_false, false_and, true_or, or_true, i1n0, i0e0]
        exact k0 _ 0
    · simp [h1, h2, hj1, k0 _ 0]
  · simp [h1, k0 _ 0]
theorem cs_tell {N k : Nat} {s : Sx} (hN : 20000 ≤ N) (hk : k ≤ 600) (hI : Inv k s) (x1 : Int32) (P : Int32 → Int32 → Sx → Prop) (hP : ∀ r s', Inv (k + 1) s' → P r r s') : w_X11_tell N x1 s (fun r s1 => w_X12_tell N x1 s1 (fun r2 s2 => P r r2 s2)) := by
  have hI2 := hI.up
  obtain ⟨hIC, hIM, hIP, hIZ, hIR, hIY, hIW, hIT, hIF, hIL, hIS⟩ := id hI
  obtain ⟨e1, e2, e3, e4, e5, e6⟩ := id hIP
  obtain ⟨z1, z2⟩ := id hIZ
  have hw : wi (nI (s.2.2 0)) 0 30 := wi_nI (M := 30) e4 (by decide)
  simp only [w_X11_tell, postAt_eq, e3, e4, wi_eq, wm_eq, forall_eq, rdI, rdU, rdI2, rdJ, rdJ1, rdN, rdN1, rdD, rdD2, rdD3, Nat.reduceEqDiff, and_self, and_true, true_and, and_false, false_and, if_true, if_false, reduceIte, Nat.zero_ne_one, Nat.one_ne_zero, i1n0, i0e0, not_true, not_false_iff, false_implies, true_implies, implies_true, true_implies, false_implies, implies_true, not_true_eq_false, not_false_eq_true, not_true, not_false_iff, and_true, true_and, and_false, false_and, true_or, or_true, i1n0, i0e0, so_n, so_s, no_s]
  by_cases h1 : wi x1 0 (nI (s.2.2 0) - 1)
  case neg => simp [w_X12_tell, mpost_eq, ← e1, e2, hw, h1, hP _ _ hI2]
  obtain ⟨j, rfl, hj1, hj2, hj3, hj4⟩ := inC (M := 30) (by decide) hw h1
  rw [nI_clamp (by omega)] at hj1
  rw [hj4]
  obtain ⟨⟨a1, a2, a3, a4, a5⟩, b1, b2, b3, b4⟩ := e5 j hj1
  simp only [h1, hj1, true_implies, false_implies, implies_true, not_true_eq_false, not_false_eq_true, not_true, not_false_iff, and_true, true_and, and_false, false_and, true_or, or_true, i1n0, i0e0]
  have hm : ∀ (S : Sx) (Q : Int32 → Sx → Prop), S.1 6 0 10 = s.1 6 0 10 → S.1 5 11 = s.1 5 11 → S.1 5 14 = s.1 5 14 → S.1 5 15 = s.1 5 15 → ((s.1 1 j 0 = 1 → w_X12_begins N 2 S (fun s_9 => w_X12_begins N 1 s_9 (fun s_10 => Q ((s.1 1 j 4 - s.1 1 j 3 + 1) + 8) s_10))) ∧ (¬ (s.1 1 j 0 = 1) → (s.1 1 j 0 = 2 → w_X12_begins N 3 S (fun s_12 => w_X12_begins N 2 s_12 (fun s_13 => w_X12_begins N 1 s_13 (fun s_14 => w_X12_begins N 1 s_14 (fun s_15 => Q ((2 * (s.1 1 j 4 - s.1 1 j 3 + 1)) + 8) s_15))))) ∧ (¬ (s.1 1 j 0 = 2) → w_X12_begins N 1 S (fun s_17 => Q (s.1 1 j 4 - s.1 1 j 3 + 1) s_17)))) → w_X12_tell N (nI j) S Q := by
    intro S Q q1 q2 q3 q4 h
    have b1 : wi (S.1 6 0 10) 0 30 := by rw [q1, ← e1, e2]; exact hw
    have b2 : wi (nI j) 0 (S.1 6 0 10 - 1) := by rw [q1, ← e1, e2]; exact h1
    simp only [w_X12_tell, mpost_eq b1, b2, hj3, hj4, true_implies, false_implies, implies_true, not_true_eq_false, not_false_eq_true, not_true, not_false_iff, and_true, true_and, and_false, false_and, true_or, or_true, i1n0, i0e0, forall_eq, q2, q3, q4, ← a1, ← a4, ← a5]
    exact h
  have dA : ∀ (S : Sx) (Q : Int32 → Sx → Prop), S.1 1 = s.1 1 → S.2.2 0 = s.2.2 0 → Q (s.1 1 j 4 - s.1 1 j 3 + 1) (setI S 0 0 4 (31 * S.1 0 0 4 + 1)) → w_X11_tellingOfPost N j S Q := by
    intro S Q q1 q2 h
    simp only [w_X11_tellingOfPost, w_X11_leaveInTrace, forall_eq]
    exact ⟨by rw [rdI2, q2]; exact hj1, days_all hIP hj1 q1 q2 h⟩
  by_cases h2 : s.1 1 j 0 = 1
  · simp only [h2, true_implies, false_implies, implies_true, not_true_eq_false, not_false_eq_true, not_true, not_false_iff, and_true, true_and, and_false, false_and, true_or, or_true, i1n0, i0e0, w_X11_tellingOfLeader, w_X11_leaveInTrace, forall_eq]
    refine dA _ _ rfl rfl ?_
    refine hm _ _ rfl rfl rfl rfl ?_
    simp only [h2, true_implies, false_implies, implies_true, not_true_eq_false, not_false_eq_true, not_true, not_false_iff, and_true, true_and, and_false, false_and, true_or, or_true, i1n0, i0e0, w_X12_begins, forall_eq]
    refine hP _ _ ⟨(IC.of rfl rfl rfl rfl rfl rfl rfl rfl rfl rfl hIC), (IM.of rfl rfl hIM), (IP.of rfl rfl rfl rfl rfl rfl rfl rfl rfl rfl hIP), ?_, (IR.of rfl rfl rfl rfl rfl rfl rfl rfl rfl rfl rfl rfl rfl rfl hIR), (IY.of rfl rfl rfl rfl rfl rfl rfl rfl rfl rfl rfl rfl rfl rfl hIY), (IW.of rfl rfl rfl rfl rfl rfl rfl rfl rfl rfl rfl rfl rfl rfl rfl rfl rfl rfl rfl rfl rfl rfl rfl hIW.up), (IT.of rfl rfl rfl rfl rfl rfl rfl rfl rfl rfl rfl rfl hIT), (IF.of rfl rfl rfl rfl rfl rfl rfl rfl rfl rfl hIF), (IL.of rfl rfl rfl rfl rfl rfl rfl rfl rfl rfl hIL), (IS.of rfl rfl rfl rfl rfl rfl rfl rfl rfl rfl rfl hIS)⟩
    refine ⟨?_, z2⟩
    show 31 * (31 * s.1 0 0 4 + 2) + 1 = 31 * (31 * s.1 6 0 1 + 2) + 1
    rw [z1]
  · by_cases h3 : s.1 1 j 0 = 2
    · have h21 : ¬ (2 : Int32) = 1 := by decide
      simp only [h3, h21, true_implies, false_implies, implies_true, not_true_eq_false, not_false_eq_true, not_true, not_false_iff, and_true, true_and, and_false, false_and, true_or, or_true, i1n0, i0e0, w_X11_tellingOfChief, w_X11_tellingOfLeader, w_X11_leaveInTrace, forall_eq]
      refine dA _ _ rfl rfl ?_
      refine dA _ _ rfl rfl ?_
      refine hm _ _ rfl rfl rfl rfl ?_
      simp only [h3, h21, true_implies, false_implies, implies_true, not_true_eq_false, not_false_eq_true, not_true, not_false_iff, and_true, true_and, and_false, false_and, true_or, or_true, i1n0, i0e0, w_X12_begins, forall_eq]
      have er : s.1 1 j 4 - s.1 1 j 3 + 1 + 8 + (s.1 1 j 4 - s.1 1 j 3 + 1) = 2 * (s.1 1 j 4 - s.1 1 j 3 + 1) + 8 := by
        generalize s.1 1 j 4 - s.1 1 j 3 + 1 = d
        apply Int32.toBitVec_inj.mp
        simp only [Int32.toBitVec_add, Int32.toBitVec_mul]
        generalize d.toBitVec = e
        show e + 8#32 + e = 2#32 * e + 8#32
        have : 2#32 * e = e + e := by rw [BitVec.two_mul]
        rw [this, BitVec.add_assoc, BitVec.add_comm 8#32 e, ← BitVec.add_assoc]
      rw [er]
      refine hP _ _ ⟨(IC.of rfl rfl rfl rfl rfl rfl rfl rfl rfl rfl hIC), (IM.of rfl rfl hIM), (IP.of rfl rfl rfl rfl rfl rfl rfl rfl rfl rfl hIP), ?_, (IR.of rfl rfl rfl rfl rfl rfl rfl rfl rfl rfl rfl rfl rfl rfl hIR), (IY.of rfl rfl rfl rfl rfl rfl rfl rfl rfl rfl rfl rfl rfl rfl hIY), (IW.of rfl rfl rfl rfl rfl rfl rfl rfl rfl rfl rfl rfl rfl rfl rfl rfl rfl rfl rfl rfl rfl rfl rfl hIW.up), (IT.of rfl rfl rfl rfl rfl rfl rfl rfl rfl rfl rfl rfl hIT), (IF.of rfl rfl rfl rfl rfl rfl rfl rfl rfl rfl hIF), (IL.of rfl rfl rfl rfl rfl rfl rfl rfl rfl rfl hIL), (IS.of rfl rfl rfl rfl rfl rfl rfl rfl rfl rfl rfl hIS)⟩
      refine ⟨?_, z2⟩
      show 31 * (31 * (31 * (31 * s.1 0 0 4 + 3) + 2) + 1) + 1 = 31 * (31 * (31 * (31 * s.1 6 0 1 + 3) + 2) + 1) + 1
      rw [z1]
    · simp only [h2, h3, true_implies, false_implies, implies_true, not_true_eq_false, not_false_eq_true, not_true, not_false_iff, and_true, true_and, and_false, false_and, true_or, or_true, i1n0, i0e0]
      refine dA _ _ rfl rfl ?_
      refine hm _ _ rfl rfl rfl rfl ?_
      simp only [h2, h3, true_implies, false_implies, implies_true, not_true_eq_false, not_false_eq_true, not_true, not_false_iff, and_true, true_and, and_false, false_and, true_or, or_true, i1n0, i0e0, w_X12_begins, forall_eq]
      refine hP _ _ ⟨(IC.of rfl rfl rfl rfl rfl rfl rfl rfl rfl rfl hIC), (IM.of rfl rfl hIM), (IP.of rfl rfl rfl rfl rfl rfl rfl rfl rfl rfl hIP), ?_, (IR.of rfl rfl rfl rfl rfl rfl rfl rfl rfl rfl rfl rfl rfl rfl hIR), (IY.of rfl rfl rfl rfl rfl rfl rfl rfl rfl rfl rfl rfl rfl rfl hIY), (IW.of rfl rfl rfl rfl rfl rfl rfl rfl rfl rfl rfl rfl rfl rfl rfl rfl rfl rfl rfl rfl rfl rfl rfl hIW.up), (IT.of rfl rfl rfl rfl rfl rfl rfl rfl rfl rfl rfl rfl hIT), (IF.of rfl rfl rfl rfl rfl rfl rfl rfl rfl rfl hIF), (IL.of rfl rfl rfl rfl rfl rfl rfl rfl rfl rfl hIL), (IS.of rfl rfl rfl rfl rfl rfl rfl rfl rfl rfl rfl hIS)⟩
      refine ⟨?_, z2⟩
      show 31 * s.1 0 0 4 + 1 = 31 * s.1 6 0 1 + 1
      rw [z1]
