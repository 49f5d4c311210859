/-! the gain of a move that is told -/
def ab (x : Int32) : Int32 := if 0 ≤ x then x else -x
theorem ab_c {N : Nat} {x : Int32} {s : Sx} {post : Int32 → Sx → Prop} : w_J9_abs_0f7a4 N x s post = post (ab x) s := by
  unfold w_J9_abs_0f7a4 ab
  by_cases h : 0 ≤ x <;> simp only [h, true_implies, false_implies, implies_true, not_true_eq_false, not_false_eq_true, not_true, not_false_iff, and_true, true_and, and_false, false_and, true_or, or_true, i1n0, i0e0, if_true, if_false]
theorem ab_m {N : Nat} {x : Int32} {s : Sx} {post : Int32 → Sx → Prop} : w_X12_size N x s post = post (ab x) s := ab_c (N := N)
def gn (s : Sx) (c p : Nat) : Int32 := s.1 0 37 p - (ab (s.1 0 2 c - s.1 0 35 p) + ab (s.1 0 3 c - s.1 0 36 p))
theorem gn_c {N c p : Nat} {s S : Sx} {post : Int32 → Sx → Prop} (hc : c < 7) (hp : p < 8) (h : ∀ n, 1 ≤ n → n < 39 → S.1 0 n = s.1 0 n) (q : post (gn s c p) S) : w_X5_gainOf N (nI c) (nI p) S post := by
  have hv : vp_in (nI c) 7 := vp_in_nI hc (by decide)
  have hv2 : vp_in (nI p) 8 := vp_in_nI hp (by decide)
  simp only [w_X5_gainOf, w_X0_far, ab_c, hv, hv2, true_implies, false_implies, implies_true, not_true_eq_false, not_false_eq_true, not_true, not_false_iff, and_true, true_and, and_false, false_and, true_or, or_true, i1n0, i0e0, nI_clamp (show c < 2 ^ 31 by omega), nI_clamp (show p < 2 ^ 31 by omega), h 37 (by decide) (by decide), h 2 (by decide) (by decide), h 3 (by decide) (by decide), h 35 (by decide) (by decide), h 36 (by decide) (by decide)]
  exact q
theorem gn_m {N c p : Nat} {s S : Sx} {post : Int64 → Sx → Prop} (hC : IC s) (hL : IL s) (hc : c < 7) (hp : p < 8) (h6 : S.1 5 6 = s.1 5 6) (h7 : S.1 5 7 = s.1 5 7) (h64 : S.1 5 64 = s.1 5 64) (h65 : S.1 5 65 = s.1 5 65) (h66 : S.1 5 66 = s.1 5 66) (q : post (gn s c p).toInt64 S) : w_X12_gainOf N (nI c) (nI p) S post := by
  obtain ⟨c1, c2, c3, c4, -⟩ := hC
  obtain ⟨e1, e2, e3, e4, e5, -⟩ := hL
  have hv : vp_in (nI c) 7 := vp_in_nI hc (by decide)
  have hv2 : vp_in (nI p) 8 := vp_in_nI hp (by decide)
  simp only [w_X12_gainOf, ab_m, hv, hv2, true_implies, false_implies, implies_true, not_true_eq_false, not_false_eq_true, not_true, not_false_iff, and_true, true_and, and_false, false_and, true_or, or_true, i1n0, i0e0, nI_clamp (show c < 2 ^ 31 by omega), nI_clamp (show p < 2 ^ 31 by omega), h6, h7, h64, h65, h66, ← c3, ← c4, ← e3, ← e4, ← e5]
  unfold gn at q
  rw [Int32.sub_sub]
  exact q
theorem b01 (x : Int32) : (x &&& 1) = 0 ∨ (x &&& 1) = 1 := by
  obtain ⟨j, hj, e⟩ := pk_andE x (m := 1) 1 (by decide)
  have : j = 0 ∨ j = 1 := by omega
  rcases this with h | h <;> subst h
  · exact Or.inl e
  · exact Or.inr e
noncomputable def gf (s : Sx) (j a : Nat) : Nat → Nat → Int32 → Int64 → Int64
  | 0, _, _, y => y
  | m + 1, c, t, y => @ite _ (wi (s.1 0 (46 + j) (a + c)) 0 (s.1 0 34 4 - 1) ∧ ¬ s.1 0 38 (s.1 0 (46 + j) (a + c)).toNatClampNeg = 0 ∧ ((t >>> (s.1 0 (46 + j) (a + c) &&& 31)) &&& 1) = 0) (pd _) (gf s j a m (c + 1) (t ||| (1 <<< (s.1 0 (46 + j) (a + c) &&& 31))) (y + (gn s c (s.1 0 (46 + j) (a + c)).toNatClampNeg).toInt64)) (-9223372036854775808)
theorem gb_loop {N j a b : Nat} {s S : Sx} {post : Int64 → Sx → Prop} (hL : IL s) (hj : j < 4) (hab : a + b ≤ 60) (hb : b ≤ 7) (eb : s.1 0 1 4 = nI b) (h : ∀ n, 1 ≤ n → S.1 0 n = s.1 0 n) : ∀ m c fuel t y, c + m = b → m < fuel → post (gf s j a m c t y) S → w_X5_gainBy_9 N j post fuel S (nI a) y t (nI c) := by
  obtain ⟨e1, e2, e3, e4, e5, -⟩ := id hL
  have eb' : S.1 0 1 4 = nI b := by rw [h 1 (by decide)]; exact eb
  intro m
  induction m with
  | zero =>
    intro c fuel t y h1 h2 hp
    obtain ⟨f, rfl⟩ : ∃ g, fuel = g + 1 := ⟨fuel - 1, by omega⟩
    have hi : c = b := by omega
    subst hi
    simp only [w_X5_gainBy_9, eb', nle (show c < 2 ^ 31 by omega) (show c < 2 ^ 31 by omega), Nat.le_refl, true_implies, false_implies, implies_true, not_true_eq_false, not_false_eq_true, not_true, not_false_iff, and_true, true_and, and_false, false_and, true_or, or_true, i1n0, i0e0]
    exact hp
  | succ m ih =>
    intro c fuel t y h1 h2 hp
    obtain ⟨f, rfl⟩ : ∃ g, fuel = g + 1 := ⟨fuel - 1, by omega⟩
    have hw : wi (nI (a + c)) 0 59 := wi_nI (M := 59) (by omega) (by decide)
    have hv : vp_in (nI (a + c)) 60 := vp_in_nI (by omega) (by decide)
    simp only [w_X5_gainBy_9, w_X7_read, w_X5_isFree, wi_eq, eb', nle (show b < 2 ^ 31 by omega) (show c < 2 ^ 31 by omega), show ¬ b ≤ c by omega, true_implies, false_implies, implies_true, not_true_eq_false, not_false_eq_true, not_true, not_false_iff, and_true, true_and, and_false, false_and, true_or, or_true, i1n0, i0e0, nI_add, hw, hv, hj, nI_clamp (show a + c < 2 ^ 31 by omega), h 34 (by decide), h 38 (by decide), h (46 + j) (by omega), forall_eq, nI_1]
    unfold gf at hp
    generalize s.1 0 (46 + j) (a + c) = p at hp ⊢
    by_cases g1 : wi p 0 (s.1 0 34 4 - 1)
    case neg =>
      rw [if_neg (fun q => g1 q.1)] at hp
      simp only [g1, true_implies, false_implies, implies_true, not_true_eq_false, not_false_eq_true, not_true, not_false_iff, and_true, true_and, and_false, false_and, true_or, or_true, i1n0, i0e0]
      exact hp
    obtain ⟨x, rfl, hx1, hx2, hx3, hx4⟩ := inC (M := 8) (by decide) e2 g1
    rw [hx4] at hp ⊢
    by_cases g2 : s.1 0 38 x = 0
    · rw [if_neg (fun q => q.2.1 g2)] at hp
      simp only [g1, g2, hx3, true_implies, false_implies, implies_true, not_true_eq_false, not_false_eq_true, not_true, not_false_iff, and_true, true_and, and_false, false_and, true_or, or_true, i1n0, i0e0]
      exact hp
    by_cases g3 : ((t >>> (nI x &&& 31)) &&& 1) = 0
    case neg =>
      rw [if_neg (fun q => g3 q.2.2)] at hp
      simp only [g1, g2, g3, hx3, true_implies, false_implies, implies_true, not_true_eq_false, not_false_eq_true, not_true, not_false_iff, and_true, true_and, and_false, false_and, true_or, or_true, i1n0, i0e0]
      exact hp
    rw [if_pos ⟨g1, g2, g3⟩] at hp
    simp only [g1, g2, g3, hx3, true_implies, false_implies, implies_true, not_true_eq_false, not_false_eq_true, not_true, not_false_iff, and_true, true_and, and_false, false_and, true_or, or_true, i1n0, i0e0]
    refine gn_c (s := s) (by omega) (by omega) (fun n h1 _ => h n h1) ?_
    exact ih (c + 1) f _ _ (by omega) (by omega) hp
theorem gm_lp {N j a b : Nat} {s S : Sx} {post : Int64 → Sx → Prop} (hC : IC s) (hL : IL s) (hS : is1 s j) (hj : j < 4) (hab : a + b ≤ 60) (hb : b ≤ 7) (h : S.1 5 = s.1 5) (h6 : S.1 6 0 63 = s.1 6 0 63) : ∀ m c fuel t y, c + m = b → m < fuel → post (gf s j a m c t y) S → w_X12_gain_76 N post fuel S (nI b) (nI (60 * j + a)) t y (nI c) := by
  obtain ⟨e1, e2, e3, e4, e5, e6, -⟩ := id hL
  intro m
  induction m with
  | zero =>
    intro c fuel t y h1 h2 hp
    obtain ⟨f, rfl⟩ : ∃ g, fuel = g + 1 := ⟨fuel - 1, by omega⟩
    have hi : c = b := by omega
    subst hi
    simp only [w_X12_gain_76, nle (show c < 2 ^ 31 by omega) (show c < 2 ^ 31 by omega), Nat.le_refl, true_implies, false_implies, implies_true, not_true_eq_false, not_false_eq_true, not_true, not_false_iff, and_true, true_and, and_false, false_and, true_or, or_true, i1n0, i0e0]
    exact hp
  | succ m ih =>
    intro c fuel t y h1 h2 hp
    obtain ⟨f, rfl⟩ : ∃ g, fuel = g + 1 := ⟨fuel - 1, by omega⟩
    have hv : vp_in (nI (60 * j + a + c)) 240 := vp_in_nI (by omega) (by decide)
    have hcell : s.1 5 4 (60 * j + a + c) = s.1 0 (46 + j) (a + c) := by rw [Nat.add_assoc]; exact (hS.2 (a + c) (by omega)).symm
    simp only [w_X12_gain_76, wm_eq, nle (show b < 2 ^ 31 by omega) (show c < 2 ^ 31 by omega), show ¬ b ≤ c by omega, true_implies, false_implies, implies_true, not_true_eq_false, not_false_eq_true, not_true, not_false_iff, and_true, true_and, and_false, false_and, true_or, or_true, i1n0, i0e0, nI_add, hv, nI_clamp (show 60 * j + a + c < 2 ^ 31 by omega), h, h6, hcell, ← e1, ← e6, forall_eq, nI_1]
    unfold gf at hp
    generalize s.1 0 (46 + j) (a + c) = p at hp ⊢
    by_cases g1 : wi p 0 (s.1 0 34 4 - 1)
    case neg =>
      rw [if_neg (fun q => g1 q.1)] at hp
      simp only [g1, true_implies, false_implies, implies_true, not_true_eq_false, not_false_eq_true, not_true, not_false_iff, and_true, true_and, and_false, false_and, true_or, or_true, i1n0, i0e0]
      exact hp
    obtain ⟨x, rfl, hx1, hx2, hx3, hx4⟩ := inC (M := 8) (by decide) e2 g1
    rw [hx4] at hp ⊢
    by_cases g2 : s.1 0 38 x = 0
    · rw [if_neg (fun q => q.2.1 g2)] at hp
      simp only [g1, g2, hx3, true_implies, false_implies, implies_true, not_true_eq_false, not_false_eq_true, not_true, not_false_iff, and_true, true_and, and_false, false_and, true_or, or_true, i1n0, i0e0]
      exact hp
    rcases b01 (t >>> (nI x &&& 31)) with g3 | g3
    · rw [if_pos ⟨g1, g2, g3⟩] at hp
      simp only [g1, g2, g3, hx3, true_implies, false_implies, implies_true, not_true_eq_false, not_false_eq_true, not_true, not_false_iff, and_true, true_and, and_false, false_and, true_or, or_true, i1n0, i0e0, i0n1]
      refine gn_m (s := s) hC hL (by omega) (by omega) (by rw [h]) (by rw [h]) (by rw [h]) (by rw [h]) (by rw [h]) ?_
      exact ih (c + 1) f _ _ (by omega) (by omega) hp
    · rw [if_neg (fun q => by have := q.2.2; rw [g3] at this; exact absurd this (by decide))] at hp
      simp only [g1, g2, g3, hx3, true_implies, false_implies, implies_true, not_true_eq_false, not_false_eq_true, not_true, not_false_iff, and_true, true_and, and_false, false_and, true_or, or_true, i1n0, i0e0]
      exact hp
set_option maxHeartbeats 1000000 in
theorem cs_gain {N k : Nat} {s : Sx} (hN : 20000 ≤ N) (hk : k ≤ 600) (hI : Inv k s) (x1 : Int32) (x2 : Int32) (x3 : Int32) (x4 : Int32) (P : Int64 → Int64 → Sx → Prop) (hP : ∀ r s', Inv (k + 1) s' → P r r s') : w_X11_gain N x1 x2 x3 x4 s (fun r s1 => w_X12_gain N x1 x2 x3 x4 s1 (fun r2 s2 => P r r2 s2)) := by
  have hI2 := hI.up
  obtain ⟨hIC, hIM, hIP, hIZ, hIR, hIY, hIW, hIT, hIF, hIL, hIS⟩ := id hI
  have hS := IS_iff.mp hIS
  obtain ⟨c1, c2, -⟩ := id hIC
  have z0 : ∀ (r : Int64) (f : Int32), P r r (setI (setI (setI (setI s 0 0 14 0) 0 0 14 f) 6 0 0 0) 6 0 0 f) := by
    intro r f
    refine hP _ _ ⟨(IC.of rfl rfl rfl rfl rfl rfl rfl rfl rfl rfl hIC), (IM.of rfl rfl hIM), (IP.of rfl rfl rfl rfl rfl rfl rfl rfl rfl rfl hIP), ?_, (IR.of rfl rfl rfl rfl rfl rfl rfl rfl rfl rfl rfl rfl rfl rfl hIR), (IY.of rfl rfl rfl rfl rfl rfl rfl rfl rfl rfl rfl rfl rfl rfl hIY), (IW.of rfl rfl rfl rfl rfl rfl rfl rfl rfl rfl rfl rfl rfl rfl rfl rfl rfl rfl rfl rfl rfl rfl rfl hIW.up), (IT.of rfl rfl rfl rfl rfl rfl rfl rfl rfl rfl rfl rfl hIT), (IF.of rfl rfl rfl rfl rfl rfl rfl rfl rfl rfl hIF), (IL.of rfl rfl rfl rfl rfl rfl rfl rfl rfl rfl hIL), (IS.of rfl rfl rfl rfl rfl rfl rfl rfl rfl rfl rfl hIS)⟩
    exact ⟨hIZ.1, rfl⟩
  have z2 : ∀ r : Int64, P r r (setI (setI (setI s 0 0 14 0) 0 0 14 0) 6 0 0 0) := by
    intro r
    refine hP _ _ ⟨(IC.of rfl rfl rfl rfl rfl rfl rfl rfl rfl rfl hIC), (IM.of rfl rfl hIM), (IP.of rfl rfl rfl rfl rfl rfl rfl rfl rfl rfl hIP), ?_, (IR.of rfl rfl rfl rfl rfl rfl rfl rfl rfl rfl rfl rfl rfl rfl hIR), (IY.of rfl rfl rfl rfl rfl rfl rfl rfl rfl rfl rfl rfl rfl rfl hIY), (IW.of rfl rfl rfl rfl rfl rfl rfl rfl rfl rfl rfl rfl rfl rfl rfl rfl rfl rfl rfl rfl rfl rfl rfl hIW.up), (IT.of rfl rfl rfl rfl rfl rfl rfl rfl rfl rfl rfl rfl hIT), (IF.of rfl rfl rfl rfl rfl rfl rfl rfl rfl rfl hIF), (IL.of rfl rfl rfl rfl rfl rfl rfl rfl rfl rfl hIL), (IS.of rfl rfl rfl rfl rfl rfl rfl rfl rfl rfl rfl hIS)⟩
    exact ⟨hIZ.1, rfl⟩
  have z1 : ∀ r : Int64, P r r (setI (setI s 0 0 14 0) 6 0 0 0) := by
    intro r
    refine hP _ _ ⟨(IC.of rfl rfl rfl rfl rfl rfl rfl rfl rfl rfl hIC), (IM.of rfl rfl hIM), (IP.of rfl rfl rfl rfl rfl rfl rfl rfl rfl rfl hIP), ?_, (IR.of rfl rfl rfl rfl rfl rfl rfl rfl rfl rfl rfl rfl rfl rfl hIR), (IY.of rfl rfl rfl rfl rfl rfl rfl rfl rfl rfl rfl rfl rfl rfl hIY), (IW.of rfl rfl rfl rfl rfl rfl rfl rfl rfl rfl rfl rfl rfl rfl rfl rfl rfl rfl rfl rfl rfl rfl rfl hIW.up), (IT.of rfl rfl rfl rfl rfl rfl rfl rfl rfl rfl rfl rfl hIT), (IF.of rfl rfl rfl rfl rfl rfl rfl rfl rfl rfl hIF), (IL.of rfl rfl rfl rfl rfl rfl rfl rfl rfl rfl hIL), (IS.of rfl rfl rfl rfl rfl rfl rfl rfl rfl rfl rfl hIS)⟩
    exact ⟨hIZ.1, rfl⟩
  simp only [w_X11_gain, w_X11_sheetAt, w_X11_isLane, wi_eq, wm_eq, forall_eq, true_implies, false_implies, implies_true, not_true_eq_false, not_false_eq_true, not_true, not_false_iff, and_true, true_and, and_false, false_and, true_or, or_true, i1n0, i0e0, so_n, so_s, no_s]
  by_cases h1 : wi x1 0 3
  case neg => simp [w_X12_gain, w_X12_isSheet, wm_eq, h1, z1]
  obtain ⟨j, hj, rfl, hv, hc⟩ := in4 h1
  by_cases h3 : wi x2 0 2
  case neg => simp [w_X12_gain, w_X12_isSheet, w_X12_isLane, wm_eq, h1, h3, hc, hj, hv, z1]
  simp only [h1, h3, hv, hc, hj, true_implies, false_implies, implies_true, not_true_eq_false, not_false_eq_true, not_true, not_false_iff, and_true, true_and, and_false, false_and, true_or, or_true, i1n0, i0e0]
  have z42 : ¬ 42 + j = 0 := by omega
  have q42 : (setI s 0 0 14 0).1 0 (42 + j) = s.1 0 (42 + j) := by simp [rdI, z42]
  refine fo_eq hj (hS j hj) q42 ?_
  rcases ft_cases s j x2 x3 x4 with hf | ⟨hf, hf2⟩
  case inr =>
    rw [nf_n hf]
    simp only [hf2, true_implies, false_implies, implies_true, not_true_eq_false, not_false_eq_true, not_true, not_false_iff, and_true, true_and, and_false, false_and, true_or, or_true, i1n0, i0e0, w_X12_gain, w_X12_isSheet, w_X12_isLane, wm_eq, forall_eq, h1, h3]
    refine ag_eq (s := s) hj rfl rfl ?_
    simp only [hf, true_implies, false_implies, implies_true, not_true_eq_false, not_false_eq_true, not_true, not_false_iff, and_true, true_and, and_false, false_and, true_or, or_true, i1n0, i0e0, w_X12_lostBeing, forall_eq]
    exact z0 _ _
  obtain ⟨a, b, c, rfl, rfl, ec, hab, hc60, el, en, el2⟩ := ft_0 (hS j hj) hf
  rw [hf, nf_0]
  have hmod : ∀ (S : Sx) (Q : Int64 → Sx → Prop), S.1 5 2 = s.1 5 2 → S.1 5 3 = s.1 5 3 → S.1 6 0 5 = s.1 6 0 5 → (nI b = s.1 0 1 4 → w_X12_gain_76 N Q N (setI S 6 0 0 0) (nI b) (nI (60 * j + a)) 0 0 0) → (¬ nI b = s.1 0 1 4 → Q (-9223372036854775808) (setI S 6 0 0 0)) → w_X12_gain N (nI j) x2 (nI a) (nI b) S Q := by
    intro S Q q2 q3 q5 g1 g2
    simp only [true_implies, false_implies, implies_true, not_true_eq_false, not_false_eq_true, not_true, not_false_iff, and_true, true_and, and_false, false_and, true_or, or_true, i1n0, i0e0, w_X12_gain, w_X12_isSheet, w_X12_isLane, wm_eq, forall_eq, h1, h3]
    refine ag_eq (s := s) hj q2 q3 ?_
    have q5' : (setI S 6 0 0 0).1 6 0 5 = s.1 0 1 4 := by rw [c1, ← q5]; rfl
    rw [hf]
    simp only [true_implies, false_implies, implies_true, not_true_eq_false, not_false_eq_true, not_true, not_false_iff, and_true, true_and, and_false, false_and, true_or, or_true, i1n0, i0e0, show (60 : Int32) = nI 60 from rfl, pk_mul, nI_add, q5']
    exact ⟨g1, g2⟩
  have q14 : (setI (setI s 0 0 14 0) 0 0 14 0).1 0 1 4 = s.1 0 1 4 := rfl
  simp only [true_implies, false_implies, implies_true, not_true_eq_false, not_false_eq_true, not_true, not_false_iff, and_true, true_and, and_false, false_and, true_or, or_true, i1n0, i0e0, q14]
  by_cases hbc : nI b = s.1 0 1 4
  case neg =>
    simp only [hbc, true_implies, false_implies, implies_true, not_true_eq_false, not_false_eq_true, not_true, not_false_iff, and_true, true_and, and_false, false_and, true_or, or_true, i1n0, i0e0]
    refine hmod _ _ rfl rfl rfl (fun q => absurd q hbc) (fun _ => ?_)
    exact z2 _
  have hb7 : b ≤ 7 := by
    rw [← hbc] at c2
    have := (wi_i.mp c2).2
    rw [nI_toInt (by omega), show (7 : Int32).toInt = 7 from by decide] at this
    omega
  simp only [eq_true hbc, true_implies, false_implies, implies_true, not_true_eq_false, not_false_eq_true, not_true, not_false_iff, and_true, true_and, and_false, false_and, true_or, or_true, i1n0, i0e0, w_X5_gainBy, hj]
  refine gb_loop (s := s) hIL hj (by omega) hb7 hbc.symm (fun n hn => ?_) b 0 N 0 0 (by omega) (by omega) ?_
  · simp [rdI, show ¬ n = 0 by omega]
  refine hmod _ _ rfl rfl rfl (fun _ => ?_) (fun q => absurd hbc q)
  refine gm_lp (a := a) (s := s) hIC hIL (hS j hj) hj (by omega) hb7 (by rfl) (by rfl) b 0 N 0 0 (by omega) (by omega) ?_
  exact z2 _
