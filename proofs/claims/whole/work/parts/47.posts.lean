theorem areD_c {N : Nat} {x0 x1 : Int32} {s : Sx} {post : Int32 → Sx → Prop} : w_X11_areDays N x0 x1 s post = ((wi x0 0 399 ∧ wi x1 0 399 ∧ x0 ≤ x1 → post 1 s) ∧ (¬ (wi x0 0 399 ∧ wi x1 0 399 ∧ x0 ≤ x1) → post 0 s)) := by
  simp only [w_X11_areDays, w_X11_isDay, wi_eq, true_implies, false_implies, implies_true, not_true_eq_false, not_false_eq_true, not_true, not_false_iff, and_true, true_and, and_false, false_and, true_or, or_true, i1n0, i0e0]
  by_cases h1 : wi x0 0 399 <;> by_cases h2 : wi x1 0 399 <;> by_cases h3 : x0 ≤ x1
  all_goals (have h4 : (x1 < x0) = ¬ (x0 ≤ x1) := by rw [lt_, le_]; simp)
  all_goals simp [h1, h2, h3, h4]
theorem areD_m {N : Nat} {x0 x1 : Int32} {s : Sx} {post : Int32 → Sx → Prop} : w_X12_areDays N x0 x1 s post = ((wi x0 0 399 ∧ wi x1 0 399 ∧ x0 ≤ x1 → post 1 s) ∧ (¬ (wi x0 0 399 ∧ wi x1 0 399 ∧ x0 ≤ x1) → post 0 s)) := by
  simp only [w_X12_areDays, w_X12_isDay, wm_eq, true_implies, false_implies, implies_true, not_true_eq_false, not_false_eq_true, not_true, not_false_iff, and_true, true_and, and_false, false_and, true_or, or_true, i1n0, i0e0]
  by_cases h1 : wi x0 0 399 <;> by_cases h2 : wi x1 0 399 <;> by_cases h3 : x0 ≤ x1
  all_goals (have h4 : (x1 < x0) = ¬ (x0 ≤ x1) := by rw [lt_, le_]; simp)
  all_goals simp [h1, h2, h3, h4]
/-- the state behind a new post -/
def spost (s : Sx) (np : Nat) (x1 x2 x3 x4 x5 : Int32) : Sx := setI (setI (setI (setI (setI (setI (setI (setN (setI (setI (setI (setI (setI (newD s 1 0) 1 np 0 x1) 1 np 1 x2) 1 np 2 x3) 1 np 3 x4) 1 np 4 x5) 1 (np + 1)) 0 0 3 (nI np + 1)) 5 11 np x1) 5 12 np x2) 5 13 np x3) 5 14 np x4) 5 15 np x5) 6 0 10 (nI np + 1)
theorem spost_1 {s : Sx} {np : Nat} {x1 x2 x3 x4 x5 : Int32} (hn : s.2.2 0 = np) : (spost s np x1 x2 x3 x4 x5).1 1 np 0 = x1 ∧ (spost s np x1 x2 x3 x4 x5).1 1 np 1 = x2 ∧ (spost s np x1 x2 x3 x4 x5).1 1 np 2 = x3 ∧ (spost s np x1 x2 x3 x4 x5).1 1 np 3 = x4 ∧ (spost s np x1 x2 x3 x4 x5).1 1 np 4 = x5 := by
  simp [spost, rdI, rdU, rdN1, rdD]
theorem spost_n {s : Sx} {np p : Nat} {x1 x2 x3 x4 x5 : Int32} (hn : s.2.2 0 = np) (hp : p ≠ np) : (spost s np x1 x2 x3 x4 x5).1 1 p = s.1 1 p := by
  simp [spost, rdI, rdN1, rdD, hp, hn]
theorem spost_m {s : Sx} {np : Nat} {x1 x2 x3 x4 x5 : Int32} : (spost s np x1 x2 x3 x4 x5).1 5 11 = upd (s.1 5 11) np x1 ∧ (spost s np x1 x2 x3 x4 x5).1 5 12 = upd (s.1 5 12) np x2 ∧ (spost s np x1 x2 x3 x4 x5).1 5 13 = upd (s.1 5 13) np x3 ∧ (spost s np x1 x2 x3 x4 x5).1 5 14 = upd (s.1 5 14) np x4 ∧ (spost s np x1 x2 x3 x4 x5).1 5 15 = upd (s.1 5 15) np x5 := ⟨rfl, rfl, rfl, rfl, rfl⟩
theorem spost_inv {k : Nat} {s : Sx} {np : Nat} {x1 x2 x3 x4 x5 : Int32} (hI : Inv k s) (hn : s.2.2 0 = np) (hnp : np < 30) (h1 : wi x1 0 2) (h2 : wi x4 0 399) (h3 : wi x5 0 399) (h4 : x4 ≤ x5) (hno : ∀ p, p < np → ¬ ovl s x2 x4 x5 p) : Inv (k + 1) (spost s np x1 x2 x3 x4 x5) := by
  obtain ⟨hIC, hIM, hIP, hIZ, hIR, hIY, hIW, hIT, hIF, hIL, hIS⟩ := id hI
  obtain ⟨e1, e2, e3, e4, e5, e6⟩ := id hIP
  refine ⟨(IC.of rfl rfl rfl rfl rfl rfl rfl rfl rfl rfl hIC), (IM.of rfl rfl hIM), ?_, (IZ.of rfl rfl rfl rfl hIZ), (IR.of rfl rfl rfl rfl rfl rfl rfl rfl rfl rfl rfl rfl rfl rfl hIR), (IY.of rfl rfl rfl rfl rfl rfl rfl rfl rfl rfl rfl rfl rfl rfl hIY), (IW.of rfl rfl rfl rfl rfl rfl rfl rfl rfl rfl rfl rfl rfl rfl rfl rfl rfl rfl rfl rfl rfl rfl rfl hIW.up), (IT.of rfl rfl rfl rfl rfl rfl rfl rfl rfl rfl rfl rfl hIT), (IF.of rfl rfl rfl rfl rfl rfl rfl rfl rfl rfl hIF), (IL.of rfl rfl rfl rfl rfl rfl rfl rfl rfl rfl hIL), (IS.of rfl rfl rfl rfl rfl rfl rfl rfl rfl rfl rfl hIS)⟩
  obtain ⟨n0, n1, n2, n3, n4⟩ := spost_1 (s := s) (x1 := x1) (x2 := x2) (x3 := x3) (x4 := x4) (x5 := x5) hn
  obtain ⟨q0, q1, q2, q3, q4⟩ := spost_m (s := s) (np := np) (x1 := x1) (x2 := x2) (x3 := x3) (x4 := x4) (x5 := x5)
  have c0 : (spost s np x1 x2 x3 x4 x5).2.2 0 = np + 1 := by simp [spost, rdI2, rdN, rdD2, hn]
  have c1 : (spost s np x1 x2 x3 x4 x5).2.2 1 = np + 1 := by simp [spost, rdI2, rdN, rdD2, hn]
  refine ⟨rfl, ?_, by omega, by omega, fun p hp => ?_, fun p q hp hq hpq => ?_⟩
  · rw [c0]; exact nI_1 np
  · rw [c0] at hp
    unfold ip1 ip2
    rw [q0, q1, q2, q3, q4]
    rcases Nat.lt_or_ge p np with r | r
    · have hne : p ≠ np := by omega
      rw [spost_n hn hne, pk_un hne, pk_un hne, pk_un hne, pk_un hne, pk_un hne]
      exact e5 p (by omega)
    · have hpe : p = np := by omega
      subst hpe
      rw [n0, n1, n2, n3, n4, pk_us, pk_us, pk_us, pk_us, pk_us]
      exact ⟨⟨rfl, rfl, rfl, rfl, rfl⟩, h1, h2, h3, h4⟩
  · rw [c0] at hp hq
    unfold ip3
    rcases Nat.lt_or_ge p np with r | r
    · rcases Nat.lt_or_ge q np with t | t
      · rw [spost_n hn (show p ≠ np by omega), spost_n hn (show q ≠ np by omega)]
        exact e6 p q (by omega) (by omega) hpq
      · have hqe : q = np := by omega
        subst hqe
        rw [spost_n hn (show p ≠ q by omega), n1, n3, n4]
        intro hm
        have := hno p r
        unfold ovl at this
        rcases Classical.em (s.1 1 p 4 < x4) with a | a
        · exact Or.inl a
        · refine Or.inr ?_
          rcases Classical.em (x5 < s.1 1 p 3) with b | b
          · exact b
          · exact absurd ⟨hm, by rw [lt_] at b; rw [le_]; omega, by rw [lt_] at a; rw [le_]; omega⟩ this
    · have hpe : p = np := by omega
      subst hpe
      rw [spost_n hn (show q ≠ p by omega), n1, n3, n4]
      intro hm
      have := hno q (by omega)
      unfold ovl at this
      rcases Classical.em (s.1 1 q 4 < x4) with a | a
      · exact Or.inr a
      · refine Or.inl ?_
        rcases Classical.em (x5 < s.1 1 q 3) with b | b
        · exact b
        · exact absurd ⟨hm.symm, by rw [lt_] at b; rw [le_]; omega, by rw [lt_] at a; rw [le_]; omega⟩ this
theorem days_c0 {N : Nat} {s : Sx} {post : Int32 → Sx → Prop} {x1 : Int32} {c d : Nat} (hN : 20000 ≤ N) (hI : IP s) (hc : c ≤ 399) (hd : d ≤ 399) (hp : post (nI (ds s x1 c d (s.2.2 0))) s) : w_X11_daysOnPosts N x1 (nI c) (nI d) s post := by
  have := days_c (N := N) (x1 := x1) (np := s.2.2 0) hI rfl hc hd hp 30 0 N (by omega) (by omega)
  rw [show min 0 (s.2.2 0) = 0 by omega] at this
  exact this
theorem cs_post {N k : Nat} {s : Sx} (hN : 20000 ≤ N) (hk : k ≤ 600) (hI : Inv k s) (x1 : Int32) (x2 : Int32) (x3 : Int32) (x4 : Int32) (x5 : Int32) (P : Int32 → Int32 → Sx → Prop) (hP : ∀ r s', Inv (k + 1) s' → P r r s') : w_X11_post N x1 x2 x3 x4 x5 s (fun r s1 => w_X12_post N x1 x2 x3 x4 x5 s1 (fun r2 s2 => P r r2 s2)) := by
  have hI2 := hI.up
  obtain ⟨hIC, hIM, hIP, hIZ, hIR, hIY, hIW, hIT, hIF, hIL, hIS⟩ := id hI
  obtain ⟨m1, m2⟩ := id hIM
  obtain ⟨c1, c2, c3⟩ := id hIC
  obtain ⟨e1, e2, e3, e4, e5, e6⟩ := id hIP
  simp only [w_X11_post, w_X11_isMan, w_X0_has, w_X11_isKind, areD_c, wi_eq, true_implies, false_implies, implies_true, not_true_eq_false, not_false_eq_true, not_true, not_false_iff, and_true, true_and, and_false, false_and, true_or, or_true, i1n0, i0e0]
  by_cases h1 : wi x2 0 (s.1 0 0 1 - 1)
  case neg => simp [w_X12_post, h1, hP _ _ hI2, mman_eq, m2, ← m1]
  by_cases h2 : wi x3 0 (s.1 0 1 4 - 1)
  case neg => simp [w_X12_post, h1, h2, hP _ _ hI2, mman_eq, m2, ← m1, mcamp_eq, c2, ← c1]
  by_cases h3 : wi x1 0 2
  case neg => simp [w_X12_post, h1, h2, h3, hP _ _ hI2, mman_eq, m2, ← m1, mcamp_eq, c2, ← c1, wm_eq]
  by_cases h4 : wi x4 0 399 ∧ wi x5 0 399 ∧ x4 ≤ x5
  case neg => simp [w_X12_post, h1, h2, h3, h4, hP _ _ hI2, mman_eq, m2, ← m1, mcamp_eq, c2, ← c1, wm_eq, areD_m]
  simp only [h1, h2, h3, h4, true_implies, false_implies, implies_true, not_true_eq_false, not_false_eq_true, not_true, not_false_iff, and_true, true_and, and_false, false_and, true_or, or_true, i1n0, i0e0]
  have hgo : ∀ (S : Sx) (Q : Int32 → Sx → Prop), S.1 0 0 1 = s.1 0 0 1 → S.1 6 0 9 = s.1 6 0 9 → S.1 0 1 4 = s.1 0 1 4 → S.1 6 0 5 = s.1 6 0 5 → w_X12_post_43 N Q N S x1 x2 x3 x4 x5 0 → w_X12_post N x1 x2 x3 x4 x5 S Q := by
    intro S Q a1 a2 a3 a4 h
    have b1 : wi (S.1 6 0 9) 0 20 := by rw [a2, ← m1]; exact m2
    have b2 : wi (S.1 6 0 5) 0 7 := by rw [a4, ← c1]; exact c2
    have b3 : wi x2 0 (S.1 6 0 9 - 1) := by rw [a2, ← m1]; exact h1
    have b4 : wi x3 0 (S.1 6 0 5 - 1) := by rw [a4, ← c1]; exact h2
    simp only [w_X12_post, mman_eq b1, mcamp_eq b2, wm_eq, areD_m, b3, b4, h3, h4, true_implies, false_implies, implies_true, not_true_eq_false, not_false_eq_true, not_true, not_false_iff, and_true, true_and, and_false, false_and, true_or, or_true, i1n0, i0e0]
    exact h
  obtain ⟨h5, h6, h7⟩ := h4
  obtain ⟨c, hc, rfl⟩ := wi_n (n := 399) (by decide) h5
  obtain ⟨d, hd, rfl⟩ := wi_n (n := 399) (by decide) h6
  have h7' := h7
  rw [nle (by omega) (by omega)] at h7
  obtain ⟨np, hnp⟩ : ∃ np, s.2.2 0 = np := ⟨_, rfl⟩
  have hk0 := ds_0 (x2 := x2) (np := np) hIP hc hd h7 np (by omega)
  have hds := ds_le (s := s) (x2 := x2) (c := c) hd np
  refine days_c0 hN hIP hc hd ?_
  rw [hnp, ← nI_0, nle (by omega) (by omega), e2, hnp, lit30, nlt (by omega) (by omega), nI_clamp (by omega)]
  by_cases hz : ds s x2 c d np = 0
  · have hno := hk0.mp hz
    have hz2 : (ds s x2 c d np ≤ 0) = True := by simp; exact hz
    by_cases hf : np < 30
    · have hle : (np = s.2.2 1) = True := by simp; omega
      have hvi : vp_in (nI np) 30 := vp_in_nI hf (by decide)
      simp only [hz2, hf, true_implies, false_implies, implies_true, not_true_eq_false, not_false_eq_true, not_true, not_false_iff, and_true, true_and, and_false, false_and, true_or, or_true, i1n0, i0e0, w_X6_init, forall_eq, rdI, rdI2, rdN, rdN1, rdD, rdD2, rdU, hnp, e3, and_self, if_true, reduceIte, Nat.reduceEqDiff, Nat.zero_ne_one, Nat.one_ne_zero, Nat.le_refl, Nat.lt_succ_self, hvi, Nat.lt_add_one, e2]
      refine hgo _ _ rfl rfl rfl rfl ?_
      refine post_no (np := np) ?_ (by omega) ?_ ?_ np 0 N (by omega) (by omega)
      · show s.1 6 0 10 = _
        rw [← e1, e2, hnp]
      · intro p hp ho
        refine hno p hp ((ip_ov hIP (by omega) _ _ _).mp ?_)
        obtain ⟨h1, h2, h3⟩ := ho
        simp only [rdI, rdN1, rdD, and_false, false_and, if_false, reduceIte, Nat.reduceEqDiff, Nat.zero_ne_one, Nat.one_ne_zero] at h1 h2 h3
        exact ⟨h1, h2, h3⟩
      have hcn : s.1 6 0 10 = nI np := by rw [← e1, e2, hnp]
      have hne : ¬ nI np = nI 30 := fun h => by have := nI_inj h (by omega) (by decide); omega
      simp only [w_X12_post_43, rdI, rdI2, rdN, rdN1, rdD, rdD2, rdU, hcn, nle (show np < 2 ^ 31 by omega) (show np < 2 ^ 31 by omega), Nat.le_refl, lit30, hne, true_implies, false_implies, implies_true, not_true_eq_false, not_false_eq_true, not_true, not_false_iff, and_true, true_and, and_false, false_and, true_or, or_true, i1n0, i0e0, forall_eq, hvi, nI_clamp (show np < 2 ^ 31 by omega), and_self, if_true, reduceIte, Nat.reduceEqDiff, Nat.zero_ne_one, Nat.one_ne_zero]
      exact hP _ _ (spost_inv hI hnp hf h3 h5 h6 h7' hno)
    · have hf2 : np = 30 := by omega
      simp only [hz2, hf, true_implies, false_implies, implies_true, not_true_eq_false, not_false_eq_true, not_true, not_false_iff, and_true, true_and, and_false, false_and, true_or, or_true, i1n0, i0e0]
      refine hgo _ _ rfl rfl rfl rfl ?_
      refine post_no (np := np) (by rw [← e1, e2, hnp]) (by omega) (fun p hp ho => hno p hp ((ip_ov hIP (by omega) _ _ _).mp ho)) ?_ np 0 N (by omega) (by omega)
      have hc30 : s.1 6 0 10 = nI 30 := by rw [← e1, e2, hnp, hf2]
      simp only [w_X12_post_43, hc30, hf2, nle (show 30 < 2 ^ 31 by decide) (show 30 < 2 ^ 31 by decide), Nat.le_refl, lit30, true_implies, false_implies, implies_true, not_true_eq_false, not_false_eq_true, not_true, not_false_iff, and_true, true_and, and_false, false_and, true_or, or_true, i1n0, i0e0]
      exact hP _ _ hI2
  · have hz2 : (ds s x2 c d np ≤ 0) = False := by simp; omega
    simp only [hz2, true_implies, false_implies, implies_true, not_true_eq_false, not_false_eq_true, not_true, not_false_iff, and_true, true_and, and_false, false_and, true_or, or_true, i1n0, i0e0]
    refine hgo _ _ rfl rfl rfl rfl ?_
    refine post_yes hIP hnp (hP _ _ hI2) np 0 N (by omega) (by omega) ?_
    rcases Classical.em (∃ p, 0 ≤ p ∧ p < np ∧ ovl s x2 (nI c) (nI d) p) with h | h
    · exact h
    · exact absurd (hk0.mpr (fun p hp ho => h ⟨p, Nat.zero_le _, hp, ho⟩)) hz
