/-! rows of sheets -/
theorem aw_c {N j a b : Nat} {S : Sx} {g : Int32} {f : Nat → Int32} {post : Int32 → Sx → Prop} (hj : j < 4) (hab : a + b ≤ 60) (q : S.1 0 (46 + j) = f) (h1 : (∀ k, k < b → wi (f (a + k)) 0 g) → post 1 S) (h0 : ¬ (∀ k, k < b → wi (f (a + k)) 0 g) → post 0 S) : ∀ m i fuel, i + m = b → m < fuel → (∀ k, k < i → wi (f (a + k)) 0 g) → w_X7_areWithin_3 N j post fuel S (nI a) (nI b) g (nI i) := by
  intro m
  induction m with
  | zero =>
    intro i fuel e1 e2 e3
    obtain ⟨n, rfl⟩ : ∃ n, fuel = n + 1 := ⟨fuel - 1, by omega⟩
    have : i = b := by omega
    subst this
    simp only [w_X7_areWithin_3, nle (show i < 2 ^ 31 by omega) (show i < 2 ^ 31 by omega), Nat.le_refl, true_implies, false_implies, implies_true, not_true_eq_false, not_false_eq_true, not_true, not_false_iff, and_true, true_and, and_false, false_and, true_or, or_true, i1n0, i0e0]
    exact h1 e3
  | succ m ih =>
    intro i fuel e1 e2 e3
    obtain ⟨n, rfl⟩ : ∃ n, fuel = n + 1 := ⟨fuel - 1, by omega⟩
    have hw : wi (nI (a + i)) 0 59 := wi_nI (M := 59) (by omega) (by decide)
    have hv : vp_in (nI (a + i)) 60 := vp_in_nI (by omega) (by decide)
    simp only [w_X7_areWithin_3, w_X7_read, wi_eq, nle (show b < 2 ^ 31 by omega) (show i < 2 ^ 31 by omega), show ¬ b ≤ i by omega, true_implies, false_implies, implies_true, not_true_eq_false, not_false_eq_true, not_true, not_false_iff, and_true, true_and, and_false, false_and, true_or, or_true, i1n0, i0e0, nI_add, hw, hv, hj, nI_clamp (show a + i < 2 ^ 31 by omega), forall_eq, nI_1, q]
    by_cases hc : wi (f (a + i)) 0 g
    · simp only [hc, true_implies, false_implies, implies_true, not_true_eq_false, not_false_eq_true, not_true, not_false_iff, and_true, true_and, and_false, false_and, true_or, or_true, i1n0, i0e0]
      refine ih (i + 1) n (by omega) (by omega) (fun k hk => ?_)
      by_cases e : k = i
      · rw [e]; exact hc
      · exact e3 k (by omega)
    · simp only [hc, true_implies, false_implies, implies_true, not_true_eq_false, not_false_eq_true, not_true, not_false_iff, and_true, true_and, and_false, false_and, true_or, or_true, i1n0, i0e0]
      exact h0 (fun q => hc (q i (by omega)))
theorem aw_m {N j a b : Nat} {S : Sx} {x1 g : Int32} {f : Nat → Int32} {post : Int32 → Sx → Prop} (hj : j < 4) (hab : a + b ≤ 60) (q : S.1 5 4 = f) (hg : (x1 = 0 ∧ g = 2) ∨ (¬ x1 = 0 ∧ g = 100)) (h1 : (∀ k, k < b → wi (f (60 * j + a + k)) 0 g) → (¬ x1 = 0 → w_X12_row_154 N post S x1 (nI b) (nI (60 * j + a)) (S.1 6 0 45)) ∧ (¬ (¬ x1 = 0) → w_X12_row_154 N post S x1 (nI b) (nI (60 * j + a)) (nI b))) (h0 : ¬ (∀ k, k < b → wi (f (60 * j + a + k)) 0 g) → post (-2) S) : ∀ m i fuel, i + m = b → m < fuel → (∀ k, k < i → wi (f (60 * j + a + k)) 0 g) → w_X12_row_97 N post fuel S x1 (nI b) (nI (60 * j + a)) (nI i) := by
  intro m
  induction m with
  | zero =>
    intro i fuel e1 e2 e3
    obtain ⟨n, rfl⟩ : ∃ n, fuel = n + 1 := ⟨fuel - 1, by omega⟩
    have : i = b := by omega
    subst this
    simp only [w_X12_row_97, nle (show i < 2 ^ 31 by omega) (show i < 2 ^ 31 by omega), Nat.le_refl, true_implies, false_implies, implies_true, not_true_eq_false, not_false_eq_true, not_true, not_false_iff, and_true, true_and, and_false, false_and, true_or, or_true, i1n0, i0e0]
    exact h1 e3
  | succ m ih =>
    intro i fuel e1 e2 e3
    obtain ⟨n, rfl⟩ : ∃ n, fuel = n + 1 := ⟨fuel - 1, by omega⟩
    have hv : vp_in (nI (60 * j + a + i)) 240 := vp_in_nI (by omega) (by decide)
    have hr : (wi (f (60 * j + a + i)) 0 g → w_X12_row_97 N post n S x1 (nI b) (nI (60 * j + a)) (nI (i + 1))) ∧ (¬ wi (f (60 * j + a + i)) 0 g → post (-2) S) := by
      refine ⟨fun hc => ?_, fun hc => h0 (fun q => hc (q i (by omega)))⟩
      refine ih (i + 1) n (by omega) (by omega) (fun k hk => ?_)
      by_cases e : k = i
      · rw [e]; exact hc
      · exact e3 k (by omega)
    simp only [w_X12_row_97, w_X12_row_125, wm_eq, nle (show b < 2 ^ 31 by omega) (show i < 2 ^ 31 by omega), show ¬ b ≤ i by omega, true_implies, false_implies, implies_true, not_true_eq_false, not_false_eq_true, not_true, not_false_iff, and_true, true_and, and_false, false_and, true_or, or_true, i1n0, i0e0, nI_add, hv, nI_clamp (show 60 * j + a + i < 2 ^ 31 by omega), forall_eq, nI_1, q]
    rcases hg with ⟨g1, g2⟩ | ⟨g1, g2⟩
    · rw [g2] at hr
      simp only [g1, true_implies, false_implies, implies_true, not_true_eq_false, not_false_eq_true, not_true, not_false_iff, and_true, true_and, and_false, false_and, true_or, or_true, i1n0, i0e0] at hr ⊢
      exact hr
    · rw [g2] at hr
      simp only [g1, true_implies, false_implies, implies_true, not_true_eq_false, not_false_eq_true, not_true, not_false_iff, and_true, true_and, and_false, false_and, true_or, or_true, i1n0, i0e0]
      exact hr
theorem upd_cp {f g : Nat → Int32} {i : Nat} {v : Int32} (hv : v = f i) : upd (fun q => if q < i then f q else g q) i v = fun q => if q < i + 1 then f q else g q := by
  funext q
  show (if q = i then v else if q < i then f q else g q) = _
  by_cases e : q = i
  · rw [if_pos e, if_pos (by omega), hv, e]
  · rw [if_neg e]
    by_cases e2 : q < i
    · rw [if_pos e2, if_pos (by omega)]
    · rw [if_neg e2, if_neg (by omega)]
theorem cp_c {N j a b c n1 : Nat} {s : Sx} {post : Sx → Prop} (hj : j < 4) (hab : a + b ≤ 60) (hc : c < 42) (hn : b ≤ n1) (hn1 : n1 < 100) (hp : post (setA s 0 c (fun q => if q < b then s.1 0 (46 + j) (a + q) else s.1 0 c q))) : ∀ m i fuel, i + m = b → m < fuel → w_X7_copyTo_3 N j c n1 post fuel (setA s 0 c (fun q => if q < i then s.1 0 (46 + j) (a + q) else s.1 0 c q)) (nI a) (nI b) (nI i) := by
  intro m
  induction m with
  | zero =>
    intro i fuel e1 e2
    obtain ⟨n, rfl⟩ : ∃ n, fuel = n + 1 := ⟨fuel - 1, by omega⟩
    have : i = b := by omega
    subst this
    simp only [w_X7_copyTo_3, nle (show i < 2 ^ 31 by omega) (show i < 2 ^ 31 by omega), Nat.le_refl, true_implies, false_implies, implies_true, not_true_eq_false, not_false_eq_true, not_true, not_false_iff, and_true, true_and, and_false, false_and, true_or, or_true, i1n0, i0e0]
    exact hp
  | succ m ih =>
    intro i fuel e1 e2
    obtain ⟨n, rfl⟩ : ∃ n, fuel = n + 1 := ⟨fuel - 1, by omega⟩
    have hw : wi (nI (a + i)) 0 59 := wi_nI (M := 59) (by omega) (by decide)
    have hv : vp_in (nI (a + i)) 60 := vp_in_nI (by omega) (by decide)
    have hv2 : vp_in (nI i) n1 := vp_in_nI (by omega) (by omega)
    have hne : ¬ 46 + j = c := by omega
    simp only [w_X7_copyTo_3, w_X7_read, wi_eq, nle (show b < 2 ^ 31 by omega) (show i < 2 ^ 31 by omega), nle (show n1 < 2 ^ 31 by omega) (show i < 2 ^ 31 by omega), show ¬ b ≤ i by omega, show ¬ n1 ≤ i by omega, true_implies, false_implies, implies_true, not_true_eq_false, not_false_eq_true, not_true, not_false_iff, and_true, true_and, and_false, false_and, true_or, or_true, i1n0, i0e0, nI_add, hw, hv, hv2, hj, nI_clamp (show a + i < 2 ^ 31 by omega), nI_clamp (show i < 2 ^ 31 by omega), forall_eq, nI_1]
    have e : ∀ v, v = s.1 0 (46 + j) (a + i) → setI (setA s 0 c (fun q => if q < i then s.1 0 (46 + j) (a + q) else s.1 0 c q)) 0 c i v = setA s 0 c (fun q => if q < i + 1 then s.1 0 (46 + j) (a + q) else s.1 0 c q) := by
      intro v hv
      rw [setI_A, setAA]
      congr 1
      simp only [rdA, and_self, if_true]
      exact upd_cp (f := fun q => s.1 0 (46 + j) (a + q)) hv
    rw [e _ (by simp [rdA, hne])]
    exact ih (i + 1) n (by omega) (by omega)
theorem cp_m {N d b c : Nat} {x1 : Int32} {s : Sx} {post : Int32 → Sx → Prop} (hdb : d + b ≤ 240) (hc : (x1 = 0 ∧ c = 44 ∧ b ≤ 8) ∨ (¬ x1 = 0 ∧ c = 49 ∧ b ≤ 24)) (hp : post (nI b) (setA s 5 c (fun q => if q < b then s.1 5 4 (d + q) else s.1 5 c q))) : ∀ m i fuel, i + m = b → m < fuel → w_X12_row_160 N post fuel (setA s 5 c (fun q => if q < i then s.1 5 4 (d + q) else s.1 5 c q)) x1 (nI b) (nI d) (nI i) := by
  have hb : b ≤ 24 := by omega
  intro m
  induction m with
  | zero =>
    intro i fuel e1 e2
    obtain ⟨n, rfl⟩ : ∃ n, fuel = n + 1 := ⟨fuel - 1, by omega⟩
    have : i = b := by omega
    subst this
    simp only [w_X12_row_160, nle (show i < 2 ^ 31 by omega) (show i < 2 ^ 31 by omega), Nat.le_refl, true_implies, false_implies, implies_true, not_true_eq_false, not_false_eq_true, not_true, not_false_iff, and_true, true_and, and_false, false_and, true_or, or_true, i1n0, i0e0]
    exact hp
  | succ m ih =>
    intro i fuel e1 e2
    obtain ⟨n, rfl⟩ : ∃ n, fuel = n + 1 := ⟨fuel - 1, by omega⟩
    have hv : vp_in (nI (d + i)) 240 := vp_in_nI (by omega) (by decide)
    have hr := ih (i + 1) n (by omega) (by omega)
    have hne : ¬ 4 = c := by omega
    have e : ∀ v, v = s.1 5 4 (d + i) → setI (setA s 5 c (fun q => if q < i then s.1 5 4 (d + q) else s.1 5 c q)) 5 c i v = setA s 5 c (fun q => if q < i + 1 then s.1 5 4 (d + q) else s.1 5 c q) := by
      intro v hv
      rw [setI_A, setAA]
      congr 1
      simp only [rdA, and_self, if_true]
      exact upd_cp (f := fun q => s.1 5 4 (d + q)) hv
    rw [← e ((setA s 5 c (fun q => if q < i then s.1 5 4 (d + q) else s.1 5 c q)).1 5 4 (d + i)) (by simp [rdA, hne])] at hr
    simp only [w_X12_row_160, nle (show b < 2 ^ 31 by omega) (show i < 2 ^ 31 by omega), show ¬ b ≤ i by omega, true_implies, false_implies, implies_true, not_true_eq_false, not_false_eq_true, not_true, not_false_iff, and_true, true_and, and_false, false_and, true_or, or_true, i1n0, i0e0, nI_add, hv, nI_clamp (show d + i < 2 ^ 31 by omega), nI_clamp (show i < 2 ^ 31 by omega), forall_eq, nI_1]
    rcases hc with ⟨c1, rfl, c3⟩ | ⟨c1, rfl, c3⟩
    · have hv2 : vp_in (nI i) 8 := vp_in_nI (by omega) (by omega)
      simp only [c1, hv2, true_implies, false_implies, implies_true, not_true_eq_false, not_false_eq_true, not_true, not_false_iff, and_true, true_and, and_false, false_and, true_or, or_true, i1n0, i0e0] at hr ⊢
      exact hr
    · have hv2 : vp_in (nI i) 24 := vp_in_nI (by omega) (by omega)
      simp only [c1, hv2, true_implies, false_implies, implies_true, not_true_eq_false, not_false_eq_true, not_true, not_false_iff, and_true, true_and, and_false, false_and, true_or, or_true, i1n0, i0e0]
      exact hr
theorem cp_0 (s : Sx) (k c : Nat) (f : Nat → Int32) : s = setA s k c (fun q => if q < 0 then f q else s.1 k c q) := by
  rw [setA_self]
  funext q
  rw [if_neg (by omega)]
theorem wi8 {b : Nat} (hb : b ≤ 60) : wi (nI b) 1 8 ↔ 1 ≤ b ∧ b ≤ 8 := by
  rw [wi_i, nI_toInt (by omega), show (1 : Int32).toInt = 1 from by decide, show (8 : Int32).toInt = 8 from by decide]
  omega
set_option maxHeartbeats 2000000 in
theorem cs_row {N k : Nat} {s : Sx} (hN : 20000 ≤ N) (hk : k ≤ 600) (hI : Inv k s) (x1 : Int32) (x2 : Int32) (x3 : Int32) (x4 : Int32) (x5 : Int32) (P : Int32 → Int32 → Sx → Prop) (hP : ∀ r s', Inv (k + 1) s' → P r r s') : w_X11_row N x1 x2 x3 x4 x5 s (fun r s1 => w_X12_row N x1 x2 x3 x4 x5 s1 (fun r2 s2 => P r r2 s2)) := by
  have hI2 := hI.up
  obtain ⟨hIC, hIM, hIP, hIZ, hIR, hIY, hIW, hIT, hIF, hIL, hIS⟩ := id hI
  have hS := IS_iff.mp hIS
  have z0 : ∀ r f : Int32, P r r (setI (setI (setI (setI s 0 0 14 0) 0 0 14 f) 6 0 0 0) 6 0 0 f) := by
    intro r f
    refine hP _ _ ⟨(IC.of rfl rfl rfl rfl rfl rfl rfl rfl rfl rfl hIC), (IM.of rfl rfl hIM), (IP.of rfl rfl rfl rfl rfl rfl rfl rfl rfl rfl hIP), ?_, (IR.of rfl rfl rfl rfl rfl rfl rfl rfl rfl rfl rfl rfl rfl rfl hIR), (IY.of rfl rfl rfl rfl rfl rfl rfl rfl rfl rfl rfl rfl rfl rfl hIY), (IW.of rfl rfl rfl rfl rfl rfl rfl rfl rfl rfl rfl rfl rfl rfl rfl rfl rfl rfl rfl rfl rfl rfl rfl hIW.up), (IT.of rfl rfl rfl rfl rfl rfl rfl rfl rfl rfl rfl rfl hIT), (IF.of rfl rfl rfl rfl rfl rfl rfl rfl rfl rfl hIF), (IL.of rfl rfl rfl rfl rfl rfl rfl rfl rfl rfl hIL), (IS.of rfl rfl rfl rfl rfl rfl rfl rfl rfl rfl rfl hIS)⟩
    exact ⟨hIZ.1, rfl⟩
  have z2 : ∀ r : Int32, P r r (setI (setI (setI s 0 0 14 0) 0 0 14 0) 6 0 0 0) := by
    intro r
    refine hP _ _ ⟨(IC.of rfl rfl rfl rfl rfl rfl rfl rfl rfl rfl hIC), (IM.of rfl rfl hIM), (IP.of rfl rfl rfl rfl rfl rfl rfl rfl rfl rfl hIP), ?_, (IR.of rfl rfl rfl rfl rfl rfl rfl rfl rfl rfl rfl rfl rfl rfl hIR), (IY.of rfl rfl rfl rfl rfl rfl rfl rfl rfl rfl rfl rfl rfl rfl hIY), (IW.of rfl rfl rfl rfl rfl rfl rfl rfl rfl rfl rfl rfl rfl rfl rfl rfl rfl rfl rfl rfl rfl rfl rfl hIW.up), (IT.of rfl rfl rfl rfl rfl rfl rfl rfl rfl rfl rfl rfl hIT), (IF.of rfl rfl rfl rfl rfl rfl rfl rfl rfl rfl hIF), (IL.of rfl rfl rfl rfl rfl rfl rfl rfl rfl rfl hIL), (IS.of rfl rfl rfl rfl rfl rfl rfl rfl rfl rfl rfl hIS)⟩
    exact ⟨hIZ.1, rfl⟩
  have z1 : ∀ r : Int32, P r r (setI (setI s 0 0 14 0) 6 0 0 0) := by
    intro r
    refine hP _ _ ⟨(IC.of rfl rfl rfl rfl rfl rfl rfl rfl rfl rfl hIC), (IM.of rfl rfl hIM), (IP.of rfl rfl rfl rfl rfl rfl rfl rfl rfl rfl hIP), ?_, (IR.of rfl rfl rfl rfl rfl rfl rfl rfl rfl rfl rfl rfl rfl rfl hIR), (IY.of rfl rfl rfl rfl rfl rfl rfl rfl rfl rfl rfl rfl rfl rfl hIY), (IW.of rfl rfl rfl rfl rfl rfl rfl rfl rfl rfl rfl rfl rfl rfl rfl rfl rfl rfl rfl rfl rfl rfl rfl hIW.up), (IT.of rfl rfl rfl rfl rfl rfl rfl rfl rfl rfl rfl rfl hIT), (IF.of rfl rfl rfl rfl rfl rfl rfl rfl rfl rfl hIF), (IL.of rfl rfl rfl rfl rfl rfl rfl rfl rfl rfl hIL), (IS.of rfl rfl rfl rfl rfl rfl rfl rfl rfl rfl rfl hIS)⟩
    exact ⟨hIZ.1, rfl⟩
  simp only [w_X11_row, w_X11_sheetAt, w_X11_isLane, wi_eq, wm_eq, forall_eq, true_implies, false_implies, implies_true, not_true_eq_false, not_false_eq_true, not_true, not_false_iff, and_true, true_and, and_false, false_and, true_or, or_true, i1n0, i0e0, so_n, so_s, no_s]
  by_cases h1 : wi x2 0 3
  case neg => simp [w_X12_row, w_X12_isSheet, wm_eq, h1, z1]
  obtain ⟨j, hj, rfl, hv, hc⟩ := in4 h1
  by_cases h2 : wi x1 0 1
  case neg => simp [w_X12_row, w_X12_isSheet, wm_eq, h1, h2, hc, hj, hv, z1]
  by_cases h3 : wi x3 0 2
  case neg => simp [w_X12_row, w_X12_isSheet, w_X12_isLane, wm_eq, h1, h2, h3, hc, hj, hv, z1]
  simp only [h1, h2, h3, hv, hc, hj, true_implies, false_implies, implies_true, not_true_eq_false, not_false_eq_true, not_true, not_false_iff, and_true, true_and, and_false, false_and, true_or, or_true, i1n0, i0e0]
  have z42 : ¬ 42 + j = 0 := by omega
  have z46 : ¬ 46 + j = 0 := by omega
  have q42 : (setI s 0 0 14 0).1 0 (42 + j) = s.1 0 (42 + j) := by simp [rdI, z42]
  refine fo_eq hj (hS j hj) q42 ?_
  rcases ft_cases s j x3 x4 x5 with hf | ⟨hf, hf2⟩
  case inr =>
    rw [nf_n hf]
    simp only [hf2, true_implies, false_implies, implies_true, not_true_eq_false, not_false_eq_true, not_true, not_false_iff, and_true, true_and, and_false, false_and, true_or, or_true, i1n0, i0e0, w_X12_row, w_X12_isSheet, w_X12_isLane, wm_eq, forall_eq, h1, h2, h3]
    refine ag_eq (s := s) hj rfl rfl ?_
    simp only [hf, true_implies, false_implies, implies_true, not_true_eq_false, not_false_eq_true, not_true, not_false_iff, and_true, true_and, and_false, false_and, true_or, or_true, i1n0, i0e0, w_X12_fails, forall_eq]
    exact z0 _ _
  obtain ⟨a, b, c, rfl, rfl, ec, hab, hc60, el, en, el2⟩ := ft_0 (hS j hj) hf
  have hcell : ∀ q, q < b → s.1 0 (46 + j) (a + q) = s.1 5 4 (60 * j + a + q) := fun q hq => by
    rw [(hS j hj).2 (a + q) (by omega), Nat.add_assoc]
  rw [hf, nf_0]
  have hs46 : (setI (setI s 0 0 14 0) 0 0 14 0).1 0 (46 + j) = s.1 0 (46 + j) := by simp [rdI, z46]
  have hmod : ∀ (S : Sx) (Q : Int32 → Sx → Prop), S.1 5 2 = s.1 5 2 → S.1 5 3 = s.1 5 3 → ((¬ x1 = 0 → (nI b = 24 → w_X12_row_85 N Q (setI S 6 0 0 0) x1 (nI j) (nI a) (nI b)) ∧ (¬ (nI b = 24) → Q ((-2)) (setI S 6 0 0 0))) ∧ (¬ (¬ x1 = 0) → (wi (nI b) 1 8 → w_X12_row_85 N Q (setI S 6 0 0 0) x1 (nI j) (nI a) (nI b)) ∧ (¬ wi (nI b) 1 8 → Q ((-2)) (setI S 6 0 0 0)))) → w_X12_row N x1 (nI j) x3 (nI a) (nI b) S Q := by
    intro S Q q2 q3 h
    simp only [true_implies, false_implies, implies_true, not_true_eq_false, not_false_eq_true, not_true, not_false_iff, and_true, true_and, and_false, false_and, true_or, or_true, i1n0, i0e0, w_X12_row, w_X12_isSheet, w_X12_isLane, wm_eq, forall_eq, h1, h2, h3]
    refine ag_eq (s := s) hj q2 q3 ?_
    rw [hf]
    simp only [true_implies, false_implies, implies_true, not_true_eq_false, not_false_eq_true, not_true, not_false_iff, and_true, true_and, and_false, false_and, true_or, or_true, i1n0, i0e0]
    exact h
  simp only [true_implies, false_implies, implies_true, not_true_eq_false, not_false_eq_true, not_true, not_false_iff, and_true, true_and, and_false, false_and, true_or, or_true, i1n0, i0e0]
  by_cases hx : x1 = 0
  · subst hx
    simp only [true_implies, false_implies, implies_true, not_true_eq_false, not_false_eq_true, not_true, not_false_iff, and_true, true_and, and_false, false_and, true_or, or_true, i1n0, i0e0, w_X10_takeWeather, wi_eq, hj, w_X11_row_95] at hmod ⊢
    by_cases hb : wi (nI b) 1 8
    case neg =>
      simp only [hb, true_implies, false_implies, implies_true, not_true_eq_false, not_false_eq_true, not_true, not_false_iff, and_true, true_and, and_false, false_and, true_or, or_true, i1n0, i0e0]
      refine hmod _ _ rfl rfl ?_
      simp only [hb, true_implies, false_implies, implies_true, not_true_eq_false, not_false_eq_true, not_true, not_false_iff, and_true, true_and, and_false, false_and, true_or, or_true, i1n0, i0e0]
      exact z2 _
    have hb8 := (wi8 (by omega)).mp hb
    simp only [hb, true_implies, false_implies, implies_true, not_true_eq_false, not_false_eq_true, not_true, not_false_iff, and_true, true_and, and_false, false_and, true_or, or_true, i1n0, i0e0, w_X7_areWithin, hj]
    refine aw_c hj (by omega) hs46 ?_ ?_ b 0 N (by omega) (by omega) (fun k hk => by omega)
    · intro hall
      simp only [true_implies, false_implies, implies_true, not_true_eq_false, not_false_eq_true, not_true, not_false_iff, and_true, true_and, and_false, false_and, true_or, or_true, i1n0, i0e0, w_X7_copyTo, hj]
      rw [cp_0 (setI (setI s 0 0 14 0) 0 0 14 0) 0 16 (fun q => (setI (setI s 0 0 14 0) 0 0 14 0).1 0 (46 + j) (a + q))]
      refine cp_c hj (by omega) (by decide) (by omega) (by decide) ?_ b 0 N (by omega) (by omega)
      rw [hs46]
      simp only [forall_eq, true_implies, false_implies, implies_true, not_true_eq_false, not_false_eq_true, not_true, not_false_iff, and_true, true_and, and_false, false_and, true_or, or_true, i1n0, i0e0]
      refine hmod _ _ rfl rfl ?_
      simp only [hb, true_implies, false_implies, implies_true, not_true_eq_false, not_false_eq_true, not_true, not_false_iff, and_true, true_and, and_false, false_and, true_or, or_true, i1n0, i0e0, w_X12_row_85, forall_eq, show (60 : Int32) = nI 60 from rfl, pk_mul, nI_add]
      refine aw_m (a := a) (b := b) (g := 2) (f := s.1 5 4) hj (by omega) (by rfl) (Or.inl ⟨rfl, rfl⟩) ?_ ?_ b 0 N (by omega) (by omega) (fun k hk => by omega)
      · intro _
        simp only [true_implies, false_implies, implies_true, not_true_eq_false, not_false_eq_true, not_true, not_false_iff, and_true, true_and, and_false, false_and, true_or, or_true, i1n0, i0e0, w_X12_row_154, forall_eq]
        generalize hT : setI (setI (setI (setA (setI (setI s 0 0 14 0) 0 0 14 0) 0 16 (fun q => if q < b then s.1 0 (46 + j) (a + q) else (setI (setI s 0 0 14 0) 0 0 14 0).1 0 16 q)) 0 14 3 (nI b)) 6 0 0 0) 6 0 45 (nI b) = T
        rw [cp_0 T 5 44 (fun q => T.1 5 4 (60 * j + a + q))]
        refine cp_m (by omega) (Or.inl ⟨rfl, rfl, by omega⟩) ?_ b 0 N (by omega) (by omega)
        subst hT
        refine hP _ _ ⟨(IC.of rfl rfl rfl rfl rfl rfl rfl rfl rfl rfl hIC), (IM.of rfl rfl hIM), (IP.of rfl rfl rfl rfl rfl rfl rfl rfl rfl rfl hIP), ?_, (IR.of rfl rfl rfl rfl rfl rfl rfl rfl rfl rfl rfl rfl rfl rfl hIR), (IY.of rfl rfl rfl rfl rfl rfl rfl rfl rfl rfl rfl rfl rfl rfl hIY), ?_, (IT.of rfl rfl rfl rfl rfl rfl rfl rfl rfl rfl rfl rfl hIT), (IF.of rfl rfl rfl rfl rfl rfl rfl rfl rfl rfl hIF), (IL.of rfl rfl rfl rfl rfl rfl rfl rfl rfl rfl hIL), (IS.of rfl rfl rfl rfl rfl rfl rfl rfl rfl rfl rfl hIS)⟩
        · exact ⟨hIZ.1, rfl⟩
        · obtain ⟨e1, e2, e3, e4, e5, e6, e7, e8, e9, e10, e11, e12, e13, e14, e15, e16⟩ := id hIW.up
          refine ⟨e1, e2, e3, e4, e5, ?_, ?_, rfl, hb, e10, e11, e12, e13, e14, e15, e16⟩
          · show (fun q => if q < b then s.1 0 (46 + j) (a + q) else s.1 0 16 q) = (fun q => if q < b then s.1 5 4 (60 * j + a + q) else s.1 5 44 q)
            funext q
            by_cases hq : q < b
            · rw [if_pos hq, if_pos hq]; exact hcell q hq
            · rw [if_neg hq, if_neg hq, e6]
          · intro q
            show wi (if q < b then s.1 0 (46 + j) (a + q) else s.1 0 16 q) 0 2
            by_cases hq : q < b
            · rw [if_pos hq]; exact hall q hq
            · rw [if_neg hq]; exact e7 q
      · intro hn
        exact absurd (fun k hk => by rw [← hcell k hk]; exact hall k hk) hn
    · intro hall
      simp only [true_implies, false_implies, implies_true, not_true_eq_false, not_false_eq_true, not_true, not_false_iff, and_true, true_and, and_false, false_and, true_or, or_true, i1n0, i0e0]
      refine hmod _ _ rfl rfl ?_
      simp only [hb, true_implies, false_implies, implies_true, not_true_eq_false, not_false_eq_true, not_true, not_false_iff, and_true, true_and, and_false, false_and, true_or, or_true, i1n0, i0e0, w_X12_row_85, forall_eq, show (60 : Int32) = nI 60 from rfl, pk_mul, nI_add]
      refine aw_m (a := a) (b := b) (g := 2) (f := s.1 5 4) hj (by omega) (by rfl) (Or.inl ⟨rfl, rfl⟩) ?_ ?_ b 0 N (by omega) (by omega) (fun k hk => by omega)
      · intro hn
        exact absurd (fun k hk => by rw [hcell k hk]; exact hn k hk) hall
      · intro _
        exact z2 _
  · simp only [hx, true_implies, false_implies, implies_true, not_true_eq_false, not_false_eq_true, not_true, not_false_iff, and_true, true_and, and_false, false_and, true_or, or_true, i1n0, i0e0, w_X8_takeTable, hj, w_X11_row_95] at hmod ⊢
    by_cases hb : nI b = 24
    case neg =>
      simp only [hb, true_implies, false_implies, implies_true, not_true_eq_false, not_false_eq_true, not_true, not_false_iff, and_true, true_and, and_false, false_and, true_or, or_true, i1n0, i0e0]
      refine hmod _ _ rfl rfl ?_
      simp only [hb, true_implies, false_implies, implies_true, not_true_eq_false, not_false_eq_true, not_true, not_false_iff, and_true, true_and, and_false, false_and, true_or, or_true, i1n0, i0e0]
      exact z2 _
    have hb8 : b = 24 := nI_inj (b := 24) hb (by omega) (by decide)
    have hbT : (nI b = 24) = True := eq_true hb
    simp only [hbT, true_implies, false_implies, implies_true, not_true_eq_false, not_false_eq_true, not_true, not_false_iff, and_true, true_and, and_false, false_and, true_or, or_true, i1n0, i0e0, w_X7_areWithin, hj]
    refine aw_c hj (by omega) hs46 ?_ ?_ b 0 N (by omega) (by omega) (fun k hk => by omega)
    · intro hall
      simp only [true_implies, false_implies, implies_true, not_true_eq_false, not_false_eq_true, not_true, not_false_iff, and_true, true_and, and_false, false_and, true_or, or_true, i1n0, i0e0, w_X7_copyTo, hj]
      rw [cp_0 (setI (setI s 0 0 14 0) 0 0 14 0) 0 24 (fun q => (setI (setI s 0 0 14 0) 0 0 14 0).1 0 (46 + j) (a + q))]
      refine cp_c hj (by omega) (by decide) (by omega) (by decide) ?_ b 0 N (by omega) (by omega)
      rw [hs46]
      refine hmod _ _ rfl rfl ?_
      simp only [hbT, true_implies, false_implies, implies_true, not_true_eq_false, not_false_eq_true, not_true, not_false_iff, and_true, true_and, and_false, false_and, true_or, or_true, i1n0, i0e0, w_X12_row_85, forall_eq, show (60 : Int32) = nI 60 from rfl, pk_mul, nI_add]
      refine aw_m (a := a) (b := b) (g := 100) (f := s.1 5 4) hj (by omega) (by rfl) (Or.inr ⟨hx, rfl⟩) ?_ ?_ b 0 N (by omega) (by omega) (fun k hk => by omega)
      · intro _
        simp only [hx, true_implies, false_implies, implies_true, not_true_eq_false, not_false_eq_true, not_true, not_false_iff, and_true, true_and, and_false, false_and, true_or, or_true, i1n0, i0e0, w_X12_row_154, forall_eq]
        generalize hT : setI (setI (setA (setI (setI s 0 0 14 0) 0 0 14 0) 0 24 (fun q => if q < b then s.1 0 (46 + j) (a + q) else (setI (setI s 0 0 14 0) 0 0 14 0).1 0 24 q)) 6 0 0 0) 6 0 45 ((setI (setA (setI (setI s 0 0 14 0) 0 0 14 0) 0 24 (fun q => if q < b then s.1 0 (46 + j) (a + q) else (setI (setI s 0 0 14 0) 0 0 14 0).1 0 24 q)) 6 0 0 0).1 6 0 45) = T
        rw [cp_0 T 5 49 (fun q => T.1 5 4 (60 * j + a + q))]
        refine cp_m (by omega) (Or.inr ⟨hx, rfl, by omega⟩) ?_ b 0 N (by omega) (by omega)
        subst hT
        refine hP _ _ ⟨(IC.of rfl rfl rfl rfl rfl rfl rfl rfl rfl rfl hIC), (IM.of rfl rfl hIM), (IP.of rfl rfl rfl rfl rfl rfl rfl rfl rfl rfl hIP), ?_, (IR.of rfl rfl rfl rfl rfl rfl rfl rfl rfl rfl rfl rfl rfl rfl hIR), (IY.of rfl rfl rfl rfl rfl rfl rfl rfl rfl rfl rfl rfl rfl rfl hIY), (IW.of rfl rfl rfl rfl rfl rfl rfl rfl rfl rfl rfl rfl rfl rfl rfl rfl rfl rfl rfl rfl rfl rfl rfl hIW.up), ?_, (IF.of rfl rfl rfl rfl rfl rfl rfl rfl rfl rfl hIF), (IL.of rfl rfl rfl rfl rfl rfl rfl rfl rfl rfl hIL), (IS.of rfl rfl rfl rfl rfl rfl rfl rfl rfl rfl rfl hIS)⟩
        · exact ⟨hIZ.1, rfl⟩
        · obtain ⟨e1, e2, e3, e4, e5, e6, r1, r2, r3, r4, r5⟩ := id hIT
          refine ⟨e1, e2, e3, e4, e5, e6, r1, r2, r3, r4, ?_⟩
          intro q hq
          show (if q < b then s.1 0 (46 + j) (a + q) else s.1 0 24 q) = (if q < b then s.1 5 4 (60 * j + a + q) else s.1 5 49 q) ∧ wi (if q < b then s.1 0 (46 + j) (a + q) else s.1 0 24 q) 0 100
          rw [if_pos (by omega), if_pos (by omega)]
          exact ⟨hcell q (by omega), hall q (by omega)⟩
      · intro hn
        exact absurd (fun k hk => by rw [← hcell k hk]; exact hall k hk) hn
    · intro hall
      simp only [true_implies, false_implies, implies_true, not_true_eq_false, not_false_eq_true, not_true, not_false_iff, and_true, true_and, and_false, false_and, true_or, or_true, i1n0, i0e0]
      refine hmod _ _ rfl rfl ?_
      simp only [hbT, true_implies, false_implies, implies_true, not_true_eq_false, not_false_eq_true, not_true, not_false_iff, and_true, true_and, and_false, false_and, true_or, or_true, i1n0, i0e0, w_X12_row_85, forall_eq, show (60 : Int32) = nI 60 from rfl, pk_mul, nI_add]
      refine aw_m (a := a) (b := b) (g := 100) (f := s.1 5 4) hj (by omega) (by rfl) (Or.inr ⟨hx, rfl⟩) ?_ ?_ b 0 N (by omega) (by omega) (fun k hk => by omega)
      · intro hn
        exact absurd (fun k hk => by rw [hcell k hk]; exact hn k hk) hall
      · intro _
        exact z2 _
