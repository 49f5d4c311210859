/-! who has the word -/
noncomputable def lst (c : Nat → Prop) : Nat → Option Nat
  | 0 => none
  | n + 1 => @ite _ (c n) (pd _) (some n) (lst c n)
theorem lst_y {c : Nat → Prop} {n : Nat} (h : c n) : lst c (n + 1) = some n := by unfold lst; rw [if_pos h]
theorem lst_n {c : Nat → Prop} {n : Nat} (h : ¬ c n) : lst c (n + 1) = lst c n := by
  conv => lhs; unfold lst
  rw [if_neg h]
theorem lst_lt {c : Nat → Prop} : ∀ {n j : Nat}, lst c n = some j → j < n
  | 0, _, h => by simp [lst] at h
  | n + 1, j, h => by
    by_cases e : c n
    · rw [lst_y e] at h; injection h with h; omega
    · rw [lst_n e] at h; have := lst_lt h; omega
theorem lst_cut {c : Nat → Prop} {n : Nat} : ∀ m, lst (fun o => o < n ∧ c o) (n + m) = lst c n := by
  intro m
  induction m with
  | zero =>
    suffices ∀ i, i ≤ n → lst (fun o => o < n ∧ c o) i = lst c i from this n (Nat.le_refl _)
    intro i
    induction i with
    | zero => intro _; rfl
    | succ i ih =>
      intro hi
      by_cases e : c i
      · rw [lst_y e, lst_y ⟨by omega, e⟩]
      · rw [lst_n e, lst_n (fun q => e q.2)]; exact ih (by omega)
  | succ m ih =>
    rw [show n + (m + 1) = n + m + 1 from rfl, lst_n (fun q => by omega)]
    exact ih
/-- the order o is heard of and tells of it -/
def he (s : Sx) (c h d f : Int32) (o : Nat) : Prop := ¬ d < s.1 2 o 6 + s.1 0 7 f.toNatClampNeg ∧ wi h (s.1 2 o 1) (s.1 2 o 2) ∧ wi d (s.1 2 o 3) (s.1 2 o 4) ∧ ((s.1 2 o 5 >>> (c &&& 31)) &&& 1) = 0
theorem lh_loop {N : Nat} {s : Sx} {c h d f : Int32} {post : Int32 → Sx → Prop} (hR : IR s) (hf : wi f 0 4) : ∀ m fuel, m ≤ 12 → m < fuel → post (vo (-9) (lst (fun o => o < s.2.2 2 ∧ he s c h d f o) m)) s → w_X11_latestHeard_4 N post fuel s c h d f (nI m + (-1)) := by
  obtain ⟨e1, e2, e3, e4, e5, e6, e7⟩ := hR
  have hv := wi_in (M := 4) (m := 5) (by decide) hf (by decide) (by decide)
  intro m
  induction m with
  | zero =>
    intro fuel h1 h2 hp
    obtain ⟨g, rfl⟩ : ∃ g, fuel = g + 1 := ⟨fuel - 1, by omega⟩
    have : nI 0 + (-1) < 0 := by decide
    simp only [w_X11_latestHeard_4, this, true_implies, false_implies, implies_true, not_true_eq_false, not_false_eq_true, not_true, not_false_iff, and_true, true_and, and_false, false_and, true_or, or_true, i1n0, i0e0]
    exact hp
  | succ m ih =>
    intro fuel h1 h2 hp
    obtain ⟨g, rfl⟩ : ∃ g, fuel = g + 1 := ⟨fuel - 1, by omega⟩
    have hm : vp_in (nI m) 12 := vp_in_nI (by omega) (by decide)
    rw [pk_m1]
    simp only [w_X11_latestHeard_4, w_X2_tellsOf, wi_eq, nI_pos (show m < 2 ^ 31 by omega), hm, hv, true_implies, false_implies, implies_true, not_true_eq_false, not_false_eq_true, not_true, not_false_iff, and_true, true_and, and_false, false_and, true_or, or_true, i1n0, i0e0, forall_eq, nI_clamp (show m < 2 ^ 31 by omega), e3]
    by_cases hh : m < s.2.2 2 ∧ he s c h d f m
    · rw [lst_y hh] at hp
      obtain ⟨g1, g2, g3, g4, g5⟩ := hh
      simp only [g1, g2, g3, g4, g5, true_implies, false_implies, implies_true, not_true_eq_false, not_false_eq_true, not_true, not_false_iff, and_true, true_and, and_false, false_and, true_or, or_true, i1n0, i0e0]
      exact hp
    · rw [lst_n hh] at hp
      have hc := ih g (by omega) (by omega) hp
      by_cases g1 : m < s.2.2 2
      case neg => simp only [g1, true_implies, false_implies, implies_true, not_true_eq_false, not_false_eq_true, not_true, not_false_iff, and_true, true_and, and_false, false_and, true_or, or_true, i1n0, i0e0]; exact hc
      by_cases g2 : d < s.1 2 m 6 + s.1 0 7 f.toNatClampNeg
      · simp only [g1, g2, true_implies, false_implies, implies_true, not_true_eq_false, not_false_eq_true, not_true, not_false_iff, and_true, true_and, and_false, false_and, true_or, or_true, i1n0, i0e0]; exact hc
      by_cases g3 : wi h (s.1 2 m 1) (s.1 2 m 2)
      case neg => simp only [g1, g2, g3, true_implies, false_implies, implies_true, not_true_eq_false, not_false_eq_true, not_true, not_false_iff, and_true, true_and, and_false, false_and, true_or, or_true, i1n0, i0e0]; exact hc
      by_cases g4 : wi d (s.1 2 m 3) (s.1 2 m 4)
      case neg => simp only [g1, g2, g3, g4, true_implies, false_implies, implies_true, not_true_eq_false, not_false_eq_true, not_true, not_false_iff, and_true, true_and, and_false, false_and, true_or, or_true, i1n0, i0e0]; exact hc
      by_cases g5 : ((s.1 2 m 5 >>> (c &&& 31)) &&& 1) = 0
      case neg => simp only [g1, g2, g3, g4, g5, true_implies, false_implies, implies_true, not_true_eq_false, not_false_eq_true, not_true, not_false_iff, and_true, true_and, and_false, false_and, true_or, or_true, i1n0, i0e0]; exact hc
      exact absurd ⟨g1, g2, g3, g4, g5⟩ hh
theorem lh_eq {N : Nat} {s : Sx} {c h d f : Int32} {post : Int32 → Sx → Prop} (hN : 20000 ≤ N) (hR : IR s) (hf : wi f 0 4) (hp : post (vo (-9) (lst (he s c h d f) (s.2.2 2))) s) : w_X11_latestHeard N c h d f s post := by
  refine lh_loop hR hf 12 N (by decide) (by omega) ?_
  have := lst_cut (c := he s c h d f) (n := s.2.2 2) (12 - s.2.2 2)
  have h4 := hR.2.2.2.1
  rw [show s.2.2 2 + (12 - s.2.2 2) = 12 by omega] at this
  rw [this]
  exact hp
theorem wo_loop {N : Nat} {s : Sx} {c h d f : Int32} {post : Int32 → Sx → Prop} (hR : IR s) (hf : wi f 0 4) (hp : post (vo (-9) (lst (he s c h d f) (s.2.2 2))) s) : ∀ m i fuel, i + m = s.2.2 2 → m < fuel → w_X12_whyOf_7 N post fuel s c h d f (vo (-9) (lst (he s c h d f) i)) (nI i) := by
  obtain ⟨e1, e2, e3, e4, e5, e6, e7⟩ := hR
  have hv := wi_in (M := 4) (m := 5) (by decide) hf (by decide) (by decide)
  have hn : ∀ i, i ≤ 12 → (s.1 6 0 16 ≤ nI i) = (s.2.2 2 ≤ i) := by
    intro i hi
    rw [← e1, e2, nle (by omega) (by omega)]
  intro m
  induction m with
  | zero =>
    intro i fuel h1 h2
    obtain ⟨g, rfl⟩ : ∃ g, fuel = g + 1 := ⟨fuel - 1, by omega⟩
    simp only [w_X12_whyOf_7, hn i (by omega), show s.2.2 2 ≤ i by omega, true_implies, false_implies, implies_true, not_true_eq_false, not_false_eq_true, not_true, not_false_iff, and_true, true_and, and_false, false_and, true_or, or_true, i1n0, i0e0]
    rw [show i = s.2.2 2 by omega]
    exact hp
  | succ m ih =>
    intro i fuel h1 h2
    obtain ⟨g, rfl⟩ : ∃ g, fuel = g + 1 := ⟨fuel - 1, by omega⟩
    have hm : vp_in (nI i) 13 := vp_in_nI (by omega) (by decide)
    obtain ⟨⟨a1, a2, a3, a4, a5, a6, a7⟩, -⟩ := e5 i (by omega)
    have hc := ih (i + 1) g (by omega) (by omega)
    simp only [w_X12_whyOf_7, w_X12_whyOf_40, w_X12_whyOf_102, w_X12_whyOf_103, wm_eq, hn i (by omega), show ¬ s.2.2 2 ≤ i by omega, hm, hv, true_implies, false_implies, implies_true, not_true_eq_false, not_false_eq_true, not_true, not_false_iff, and_true, true_and, and_false, false_and, true_or, or_true, i1n0, i0e0, forall_eq, nI_clamp (show i < 2 ^ 31 by omega), nI_1, ← a2, ← a3, ← a4, ← a5, ← a6, ← a7, ← e6]
    by_cases hh : he s c h d f i
    · rw [lst_y hh] at hc
      obtain ⟨g2, g3, g4, g5⟩ := hh
      simp only [g2, g3, g4, g5, true_implies, false_implies, implies_true, not_true_eq_false, not_false_eq_true, not_true, not_false_iff, and_true, true_and, and_false, false_and, true_or, or_true, i1n0, i0e0]
      exact hc
    · rw [lst_n hh] at hc
      by_cases g2 : d < s.1 2 i 6 + s.1 0 7 f.toNatClampNeg <;> by_cases g3 : wi h (s.1 2 i 1) (s.1 2 i 2) <;> by_cases g4 : wi d (s.1 2 i 3) (s.1 2 i 4) <;> by_cases g5 : ((s.1 2 i 5 >>> (c &&& 31)) &&& 1) = 0 <;> simp only [g2, g3, g4, g5, true_implies, false_implies, implies_true, not_true_eq_false, not_false_eq_true, not_true, not_false_iff, and_true, true_and, and_false, false_and, true_or, or_true, i1n0, i0e0] <;> first | exact hc | exact absurd ⟨g2, g3, g4, g5⟩ hh
theorem wo_eq {N : Nat} {s : Sx} {c h d f : Int32} {post : Int32 → Sx → Prop} (hN : 20000 ≤ N) (hR : IR s) (hf : wi f 0 4) (hp : post (vo (-9) (lst (he s c h d f) (s.2.2 2))) s) : w_X12_whyOf N c h d f s post := by
  have h4 := hR.2.2.2.1
  exact wo_loop hR hf hp (s.2.2 2) 0 N (by omega) (by omega)
/-- the office that has the word -/
noncomputable def wd_ (s : Sx) (c h d f : Int32) : Int32 := match lst (he s c h d f) (s.2.2 2) with
  | some j => s.1 2 j 0
  | none => (-9)
theorem wf_eq {N : Nat} {s : Sx} {c h d f : Int32} {post : Int32 → Sx → Prop} (hN : 20000 ≤ N) (hR : IR s) (hf : wi f 0 4) (hp : post (wd_ s c h d f) s) : w_X12_wordOf N c h d f s post := by
  unfold w_X12_wordOf
  refine wo_eq hN hR hf ?_
  obtain ⟨e1, e2, e3, e4, e5, e6, e7⟩ := hR
  unfold wd_ at hp
  rcases hl : lst (he s c h d f) (s.2.2 2) with _ | j
  · rw [hl] at hp
    simp only [vo, true_implies, false_implies, implies_true, not_true_eq_false, not_false_eq_true, not_true, not_false_iff, and_true, true_and, and_false, false_and, true_or, or_true, i1n0, i0e0]
    exact hp
  · rw [hl] at hp
    have hj := lst_lt hl
    have hm : vp_in (nI j) 13 := vp_in_nI (by omega) (by decide)
    simp only [vo, n9 j (by omega), hm, nI_clamp (show j < 2 ^ 31 by omega), ← (e5 j hj).1.1, true_implies, false_implies, implies_true, not_true_eq_false, not_false_eq_true, not_true, not_false_iff, and_true, true_and, and_false, false_and, true_or, or_true, i1n0, i0e0]
    exact hp
theorem oa_eq {N : Nat} {s : Sx} {c h d f : Int32} {post : Option Nat → Sx → Prop} (hR : IR s) (hp : post (lst (he s c h d f) (s.2.2 2)) s) : w_X11_orderAt N (vo (-9) (lst (he s c h d f) (s.2.2 2))) s post := by
  obtain ⟨e1, e2, e3, e4, e5, e6, e7⟩ := hR
  rw [orderAt_eq (by omega), e3]
  have hw : wi (nI (s.2.2 2)) 0 12 := wi_nI (M := 12) e4 (by decide)
  rcases hl : lst (he s c h d f) (s.2.2 2) with _ | j
  · rw [hl] at hp
    have : ¬ wi (vo (-9) none) 0 (nI (s.2.2 2) - 1) := fun h => by
      have := (wi_i.mp h).1
      exact absurd this (by decide)
    simp only [this, true_implies, false_implies, implies_true, not_true_eq_false, not_false_eq_true, not_true, not_false_iff, and_true, true_and, and_false, false_and, true_or, or_true, i1n0, i0e0]
    exact hp
  · rw [hl] at hp
    have hj := lst_lt hl
    have : wi (vo (-9) (some j)) 0 (nI (s.2.2 2) - 1) := by
      show wi (nI j) 0 _
      rw [show (1 : Int32) = nI 1 from rfl, pk_sub (by omega)]
      exact wi_nI (by omega) (by omega)
    simp only [this, true_implies, false_implies, implies_true, not_true_eq_false, not_false_eq_true, not_true, not_false_iff, and_true, true_and, and_false, false_and, true_or, or_true, i1n0, i0e0]
    show post (some (nI j).toNatClampNeg) s
    rw [nI_clamp (by omega)]
    exact hp
theorem cs_why {N k : Nat} {s : Sx} (hN : 20000 ≤ N) (hk : k ≤ 600) (hI : Inv k s) (x1 : Int32) (x2 : Int32) (x3 : Int32) (x4 : Int32) (P : Int32 → Int32 → Sx → Prop) (hP : ∀ r s', Inv (k + 1) s' → P r r s') : w_X11_why N x1 x2 x3 x4 s (fun r s1 => w_X12_why N x1 x2 x3 x4 s1 (fun r2 s2 => P r r2 s2)) := by
  have hI2 := hI.up
  obtain ⟨hIC, hIM, hIP, hIZ, hIR, hIY, hIW, hIT, hIF, hIL, hIS⟩ := id hI
  obtain ⟨c1, c2, c3⟩ := id hIC
  simp only [w_X11_why, w_X0_has, w_X11_isOffice, w_X11_isDay, wi_eq, true_implies, false_implies, implies_true, not_true_eq_false, not_false_eq_true, not_true, not_false_iff, and_true, true_and, and_false, false_and, true_or, or_true, i1n0, i0e0]
  simp only [w_X12_why, w_X12_isOffice, w_X12_isDay, wm_eq, mcamp_eq, c2, ← c1, true_implies, false_implies, implies_true, not_true_eq_false, not_false_eq_true, not_true, not_false_iff, and_true, true_and, and_false, false_and, true_or, or_true, i1n0, i0e0]
  by_cases h1 : wi x1 0 (s.1 0 1 4 - 1)
  case neg => simp [h1, hP _ _ hI2]
  by_cases h2 : wi x4 0 4
  case neg => simp [h1, h2, hP _ _ hI2]
  by_cases h3 : wi x2 0 23
  case neg => simp [h1, h2, h3, hP _ _ hI2]
  by_cases h4 : wi x3 0 399
  case neg => simp [h1, h2, h3, h4, hP _ _ hI2]
  simp only [h1, h2, h3, h4, true_implies, false_implies, implies_true, not_true_eq_false, not_false_eq_true, not_true, not_false_iff, and_true, true_and, and_false, false_and, true_or, or_true, i1n0, i0e0]
  refine lh_eq hN hIR h2 ?_
  simp only [mcamp_eq, c2, ← c1, h1, h2, h3, h4, true_implies, false_implies, implies_true, not_true_eq_false, not_false_eq_true, not_true, not_false_iff, and_true, true_and, and_false, false_and, true_or, or_true, i1n0, i0e0]
  refine wo_eq hN hIR h2 ?_
  exact hP _ _ hI2
theorem oa_n {N : Nat} {s : Sx} {x : Int32} {post : Option Nat → Sx → Prop} (hR : IR s) (hx : x < 0) (hp : post none s) : w_X11_orderAt N x s post := by
  obtain ⟨e1, e2, e3, e4, e5, e6, e7⟩ := hR
  rw [orderAt_eq (by omega)]
  have : ¬ wi x 0 (nI (s.2.2 3) - 1) := fun h => by
    have := (wi_i.mp h).1
    rw [lt_] at hx
    omega
  simp only [this, true_implies, false_implies, implies_true, not_true_eq_false, not_false_eq_true, not_true, not_false_iff, and_true, true_and, and_false, false_and, true_or, or_true, i1n0, i0e0]
  exact hp
theorem cs_word {N k : Nat} {s : Sx} (hN : 20000 ≤ N) (hk : k ≤ 600) (hI : Inv k s) (x1 : Int32) (x2 : Int32) (x3 : Int32) (x4 : Int32) (P : Int32 → Int32 → Sx → Prop) (hP : ∀ r s', Inv (k + 1) s' → P r r s') : w_X11_word N x1 x2 x3 x4 s (fun r s1 => w_X12_word N x1 x2 x3 x4 s1 (fun r2 s2 => P r r2 s2)) := by
  have hI2 := hI.up
  obtain ⟨hIC, hIM, hIP, hIZ, hIR, hIY, hIW, hIT, hIF, hIL, hIS⟩ := id hI
  obtain ⟨c1, c2, c3⟩ := id hIC
  have k1 : w_X11_orderAt N (-1) s (fun o_4 s_3 => (o_4 = none → w_X12_word N x1 x2 x3 x4 s_3 (fun r2 s2 => P (-1) r2 s2)) ∧ (∀ j_5, o_4 = some j_5 → j_5 < s_3.2.2 2 ∧ w_X12_word N x1 x2 x3 x4 s_3 (fun r2 s2 => P (s_3.1 2 j_5 0) r2 s2))) = w_X12_word N x1 x2 x3 x4 s (fun r2 s2 => P (-1) r2 s2) := by
    rw [orderAt_eq (by rw [hIR.2.2.1]; exact hIR.2.2.2.1)]
    have : ¬ wi (-1) 0 (nI (s.2.2 3) - 1) := fun h => by have := (wi_i.mp h).1; exact absurd this (by decide)
    simp [this]
  have k2 : w_X11_orderAt N (-2) s (fun o_4 s_3 => (o_4 = none → w_X12_word N x1 x2 x3 x4 s_3 (fun r2 s2 => P (-2) r2 s2)) ∧ (∀ j_5, o_4 = some j_5 → j_5 < s_3.2.2 2 ∧ w_X12_word N x1 x2 x3 x4 s_3 (fun r2 s2 => P (s_3.1 2 j_5 0) r2 s2))) = w_X12_word N x1 x2 x3 x4 s (fun r2 s2 => P (-2) r2 s2) := by
    rw [orderAt_eq (by rw [hIR.2.2.1]; exact hIR.2.2.2.1)]
    have : ¬ wi (-2) 0 (nI (s.2.2 3) - 1) := fun h => by have := (wi_i.mp h).1; exact absurd this (by decide)
    simp [this]
  simp only [w_X11_word, w_X11_why, w_X0_has, w_X11_isOffice, w_X11_isDay, wi_eq, true_implies, false_implies, implies_true, not_true_eq_false, not_false_eq_true, not_true, not_false_iff, and_true, true_and, and_false, false_and, true_or, or_true, i1n0, i0e0, k1, k2]
  simp only [w_X12_word, w_X12_isOffice, w_X12_isDay, wm_eq, mcamp_eq, c2, ← c1, true_implies, false_implies, implies_true, not_true_eq_false, not_false_eq_true, not_true, not_false_iff, and_true, true_and, and_false, false_and, true_or, or_true, i1n0, i0e0]
  by_cases h1 : wi x1 0 (s.1 0 1 4 - 1)
  case neg => simp [h1, hP _ _ hI2]
  by_cases h2 : wi x4 0 4
  case neg => simp [h1, h2, hP _ _ hI2]
  by_cases h3 : wi x2 0 23
  case neg => simp [h1, h2, h3, hP _ _ hI2]
  by_cases h4 : wi x3 0 399
  case neg => simp [h1, h2, h3, h4, hP _ _ hI2]
  simp only [h1, h2, h3, h4, true_implies, false_implies, implies_true, not_true_eq_false, not_false_eq_true, not_true, not_false_iff, and_true, true_and, and_false, false_and, true_or, or_true, i1n0, i0e0]
  refine lh_eq hN hIR h2 ?_
  refine oa_eq hIR ?_
  have kf : ∀ r, r = wd_ s x1 x2 x3 x4 → w_X12_isCamp N x1 s (fun r_2 s_1 => (r_2 = 0 → P r (-1) s_1) ∧ (¬ (r_2 = 0) → w_X12_wordOf N x1 x2 x3 x4 s_1 (fun r_14 s_13 => P r r_14 s_13))) := by
    intro r hr
    simp only [mcamp_eq, c2, ← c1, h1, true_implies, false_implies, implies_true, not_true_eq_false, not_false_eq_true, not_true, not_false_iff, and_true, true_and, and_false, false_and, true_or, or_true, i1n0, i0e0]
    refine wf_eq hN hIR h2 ?_
    rw [← hr]
    exact hP _ _ hI2
  simp only [mcamp_eq, c2, ← c1, h1, true_implies, false_implies, implies_true, not_true_eq_false, not_false_eq_true, not_true, not_false_iff, and_true, true_and, and_false, false_and, true_or, or_true, i1n0, i0e0] at kf ⊢
  unfold wd_ at kf
  rcases hl : lst (he s x1 x2 x3 x4) (s.2.2 2) with _ | j
  · rw [hl] at kf
    simp only [so_s, so_n, no_s, true_implies, false_implies, implies_true, not_true_eq_false, not_false_eq_true, not_true, not_false_iff, and_true, true_and, and_false, false_and, true_or, or_true, i1n0, i0e0]
    exact kf _ rfl
  · rw [hl] at kf
    have hj := lst_lt hl
    simp only [so_s, so_n, no_s, hj, true_implies, false_implies, implies_true, not_true_eq_false, not_false_eq_true, not_true, not_false_iff, and_true, true_and, and_false, false_and, true_or, or_true, i1n0, i0e0, mcamp_eq, c2, ← c1, h1]
    exact kf _ rfl
noncomputable def clm (s : Sx) (c d : Int32) (h g : Nat) : Prop := wd_ s c (nI h) d (nI g) = nI g
noncomputable def qs (s : Sx) (c d : Int32) : Nat → Int32
  | 0 => 0
  | h + 1 => @ite _ (2 ≤ ctc (clm s c d h) 5) (pd _) (qs s c d h ||| (1 <<< (nI h &&& 31))) (qs s c d h)
theorem oc_loop {N h : Nat} {s : Sx} {c d : Int32} {post : Int32 → Sx → Prop} (hN : 20000 ≤ N) (hR : IR s) (hp : post (nI (ctc (clm s c d h) 5)) s) : ∀ m i fuel, i + m = 5 → m < fuel → w_X11_officesThatClaim_6 N post fuel s c (nI h) d (nI (ctc (clm s c d h) i)) (nI i) := by
  intro m
  induction m with
  | zero =>
    intro i fuel h1 h2
    obtain ⟨g, rfl⟩ : ∃ g, fuel = g + 1 := ⟨fuel - 1, by omega⟩
    have : i = 5 := by omega
    subst this
    simp only [w_X11_officesThatClaim_6, show (5 : Int32) = nI 5 from rfl, nle (show 5 < 2 ^ 31 by omega) (show 5 < 2 ^ 31 by omega), Nat.le_refl, true_implies, false_implies, implies_true, not_true_eq_false, not_false_eq_true, not_true, not_false_iff, and_true, true_and, and_false, false_and, true_or, or_true, i1n0, i0e0]
    exact hp
  | succ m ih =>
    intro i fuel h1 h2
    obtain ⟨g, rfl⟩ : ∃ g, fuel = g + 1 := ⟨fuel - 1, by omega⟩
    have hc := ih (i + 1) g (by omega) (by omega)
    simp only [w_X11_officesThatClaim_6, show (5 : Int32) = nI 5 from rfl, nle (show 5 < 2 ^ 31 by omega) (show i < 2 ^ 31 by omega), show ¬ 5 ≤ i by omega, true_implies, false_implies, implies_true, not_true_eq_false, not_false_eq_true, not_true, not_false_iff, and_true, true_and, and_false, false_and, true_or, or_true, i1n0, i0e0]
    refine lh_eq hN hR (wi_nI (M := 4) (by omega) (by decide)) ?_
    refine oa_eq hR ?_
    simp only [forall_eq, nI_1]
    rcases hl : lst (he s c (nI h) d (nI i)) (s.2.2 2) with _ | j
    · have hw : ¬ clm s c d h i := fun q => by
        unfold clm wd_ at q
        rw [hl] at q
        exact n9 i (by omega) q.symm
      rw [ctc_n hw] at hc
      simp only [so_s, so_n, no_s, true_implies, false_implies, implies_true, not_true_eq_false, not_false_eq_true, not_true, not_false_iff, and_true, true_and, and_false, false_and, true_or, or_true, i1n0, i0e0]
      exact hc
    · have hj := lst_lt hl
      simp only [so_s, so_n, no_s, hj, true_implies, false_implies, implies_true, not_true_eq_false, not_false_eq_true, not_true, not_false_iff, and_true, true_and, and_false, false_and, true_or, or_true, i1n0, i0e0]
      by_cases hw : clm s c d h i
      · rw [ctc_y hw] at hc
        unfold clm wd_ at hw
        rw [hl] at hw
        simp only [show s.1 2 j 0 = nI i from hw, true_implies, false_implies, implies_true, not_true_eq_false, not_false_eq_true, not_true, not_false_iff, and_true, true_and, and_false, false_and, true_or, or_true, i1n0, i0e0]
        exact hc
      · rw [ctc_n hw] at hc
        unfold clm wd_ at hw
        rw [hl] at hw
        simp only [show ¬ s.1 2 j 0 = nI i from hw, true_implies, false_implies, implies_true, not_true_eq_false, not_false_eq_true, not_true, not_false_iff, and_true, true_and, and_false, false_and, true_or, or_true, i1n0, i0e0]
        exact hc
theorem qm_loop {N h : Nat} {s : Sx} {c d x3 : Int32} {post : Int32 → Sx → Prop} {K : Sx → Int32 → Int32 → Int32 → Int32 → Prop} (hN : 20000 ≤ N) (hR : IR s) (hp1 : ctc (clm s c d h) 5 ≤ 1 → K s c d (x3 ||| 0) (nI (h + 1))) (hp2 : 2 ≤ ctc (clm s c d h) 5 → K s c d (x3 ||| (1 <<< (nI h &&& 31))) (nI (h + 1))) : ∀ m i fuel, i + m = 5 → m < fuel → w_X12_quarrel_38 N post K fuel s c d x3 (nI h) (nI (ctc (clm s c d h) i)) (nI i) := by
  intro m
  induction m with
  | zero =>
    intro i fuel h1 h2
    obtain ⟨g, rfl⟩ : ∃ g, fuel = g + 1 := ⟨fuel - 1, by omega⟩
    have : i = 5 := by omega
    subst this
    have hl := ctc_le (clm s c d h) 5
    simp only [w_X12_quarrel_38, show (5 : Int32) = nI 5 from rfl, nle (show 5 < 2 ^ 31 by omega) (show 5 < 2 ^ 31 by omega), Nat.le_refl, true_implies, false_implies, implies_true, not_true_eq_false, not_false_eq_true, not_true, not_false_iff, and_true, true_and, and_false, false_and, true_or, or_true, i1n0, i0e0, forall_eq, nI_1]
    rw [show (nI (ctc (clm s c d h) 5) ≤ 1) = (ctc (clm s c d h) 5 ≤ 1) from nle (b := 1) (by omega) (by decide)]
    exact ⟨fun q => hp1 q, fun q => hp2 (by omega)⟩
  | succ m ih =>
    intro i fuel h1 h2
    obtain ⟨g, rfl⟩ : ∃ g, fuel = g + 1 := ⟨fuel - 1, by omega⟩
    have hc := ih (i + 1) g (by omega) (by omega)
    simp only [w_X12_quarrel_38, show (5 : Int32) = nI 5 from rfl, nle (show 5 < 2 ^ 31 by omega) (show i < 2 ^ 31 by omega), show ¬ 5 ≤ i by omega, true_implies, false_implies, implies_true, not_true_eq_false, not_false_eq_true, not_true, not_false_iff, and_true, true_and, and_false, false_and, true_or, or_true, i1n0, i0e0]
    refine wf_eq hN hR (wi_nI (M := 4) (by omega) (by decide)) ?_
    simp only [forall_eq, nI_1, Int32.add_zero]
    by_cases hw : clm s c d h i
    · rw [ctc_y hw] at hc
      unfold clm at hw
      simp only [hw, true_implies, false_implies, implies_true, not_true_eq_false, not_false_eq_true, not_true, not_false_iff, and_true, true_and, and_false, false_and, true_or, or_true, i1n0, i0e0]
      exact hc
    · rw [ctc_n hw] at hc
      unfold clm at hw
      simp only [hw, true_implies, false_implies, implies_true, not_true_eq_false, not_false_eq_true, not_true, not_false_iff, and_true, true_and, and_false, false_and, true_or, or_true, i1n0, i0e0]
      exact hc
theorem qs_y {s : Sx} {c d : Int32} {h : Nat} (q : 2 ≤ ctc (clm s c d h) 5) : qs s c d (h + 1) = qs s c d h ||| (1 <<< (nI h &&& 31)) := by
  conv => lhs; unfold qs
  rw [if_pos q]
theorem qs_n {s : Sx} {c d : Int32} {h : Nat} (q : ¬ 2 ≤ ctc (clm s c d h) 5) : qs s c d (h + 1) = qs s c d h := by
  conv => lhs; unfold qs
  rw [if_neg q]
theorem qc_loop {N : Nat} {s : Sx} {c d : Int32} {post : Int32 → Sx → Prop} (hN : 20000 ≤ N) (hR : IR s) (hp : post (qs s c d 24) s) : ∀ m i fuel, i + m = 24 → m < fuel → w_X11_quarrel_28 N post fuel s c d (qs s c d i) (nI i) := by
  intro m
  induction m with
  | zero =>
    intro i fuel h1 h2
    obtain ⟨g, rfl⟩ : ∃ g, fuel = g + 1 := ⟨fuel - 1, by omega⟩
    have : i = 24 := by omega
    subst this
    simp only [w_X11_quarrel_28, show (23 : Int32) = nI 23 from rfl, nlt (show 23 < 2 ^ 31 by omega) (show 24 < 2 ^ 31 by omega), show 23 < 24 by omega, true_implies, false_implies, implies_true, not_true_eq_false, not_false_eq_true, not_true, not_false_iff, and_true, true_and, and_false, false_and, true_or, or_true, i1n0, i0e0]
    exact hp
  | succ m ih =>
    intro i fuel h1 h2
    obtain ⟨g, rfl⟩ : ∃ g, fuel = g + 1 := ⟨fuel - 1, by omega⟩
    have hc := ih (i + 1) g (by omega) (by omega)
    have hl := ctc_le (clm s c d i) 5
    simp only [w_X11_quarrel_28, show (23 : Int32) = nI 23 from rfl, nlt (show 23 < 2 ^ 31 by omega) (show i < 2 ^ 31 by omega), show ¬ 23 < i by omega, true_implies, false_implies, implies_true, not_true_eq_false, not_false_eq_true, not_true, not_false_iff, and_true, true_and, and_false, false_and, true_or, or_true, i1n0, i0e0, forall_eq, nI_1]
    refine oc_loop hN hR ?_ 5 0 N rfl (by omega)
    rw [show (nI (ctc (clm s c d i) 5) < 2) = (ctc (clm s c d i) 5 < 2) from nlt (b := 2) (by omega) (by decide)]
    by_cases q : 2 ≤ ctc (clm s c d i) 5
    · rw [qs_y q] at hc
      simp only [show ¬ ctc (clm s c d i) 5 < 2 by omega, true_implies, false_implies, implies_true, not_true_eq_false, not_false_eq_true, not_true, not_false_iff, and_true, true_and, and_false, false_and, true_or, or_true, i1n0, i0e0]
      exact hc
    · rw [qs_n q] at hc
      simp only [show ctc (clm s c d i) 5 < 2 by omega, true_implies, false_implies, implies_true, not_true_eq_false, not_false_eq_true, not_true, not_false_iff, and_true, true_and, and_false, false_and, true_or, or_true, i1n0, i0e0]
      exact hc
theorem qk_loop {N : Nat} {s : Sx} {c d : Int32} {post : Int32 → Sx → Prop} (hN : 20000 ≤ N) (hR : IR s) (hp : post (qs s c d 24) s) : ∀ m i fuel, i + m = 24 → m < fuel → w_X12_quarrel_25 N post fuel s c d (qs s c d i) (nI i) := by
  intro m
  induction m with
  | zero =>
    intro i fuel h1 h2
    obtain ⟨g, rfl⟩ : ∃ g, fuel = g + 1 := ⟨fuel - 1, by omega⟩
    have : i = 24 := by omega
    subst this
    simp only [w_X12_quarrel_25, show (24 : Int32) = nI 24 from rfl, nle (show 24 < 2 ^ 31 by omega) (show 24 < 2 ^ 31 by omega), Nat.le_refl, true_implies, false_implies, implies_true, not_true_eq_false, not_false_eq_true, not_true, not_false_iff, and_true, true_and, and_false, false_and, true_or, or_true, i1n0, i0e0]
    exact hp
  | succ m ih =>
    intro i fuel h1 h2
    obtain ⟨g, rfl⟩ : ∃ g, fuel = g + 1 := ⟨fuel - 1, by omega⟩
    have hc := ih (i + 1) g (by omega) (by omega)
    have hl := ctc_le (clm s c d i) 5
    simp only [w_X12_quarrel_25, show (24 : Int32) = nI 24 from rfl, nle (show 24 < 2 ^ 31 by omega) (show i < 2 ^ 31 by omega), show ¬ 24 ≤ i by omega, true_implies, false_implies, implies_true, not_true_eq_false, not_false_eq_true, not_true, not_false_iff, and_true, true_and, and_false, false_and, true_or, or_true, i1n0, i0e0]
    refine qm_loop hN hR ?_ ?_ 5 0 N rfl (by omega)
    · intro q
      rw [qs_n (by omega)] at hc
      rw [Int32.or_zero]
      exact hc
    · intro q
      rw [qs_y q] at hc
      exact hc
theorem cs_quarrel {N k : Nat} {s : Sx} (hN : 20000 ≤ N) (hk : k ≤ 600) (hI : Inv k s) (x1 : Int32) (x2 : Int32) (P : Int32 → Int32 → Sx → Prop) (hP : ∀ r s', Inv (k + 1) s' → P r r s') : w_X11_quarrel N x1 x2 s (fun r s1 => w_X12_quarrel N x1 x2 s1 (fun r2 s2 => P r r2 s2)) := by
  have hI2 := hI.up
  obtain ⟨hIC, hIM, hIP, hIZ, hIR, hIY, hIW, hIT, hIF, hIL, hIS⟩ := id hI
  obtain ⟨c1, c2, c3⟩ := id hIC
  simp only [w_X11_quarrel, w_X0_has, w_X11_isDay, wi_eq, true_implies, false_implies, implies_true, not_true_eq_false, not_false_eq_true, not_true, not_false_iff, and_true, true_and, and_false, false_and, true_or, or_true, i1n0, i0e0]
  simp only [w_X12_quarrel, w_X12_isDay, wm_eq, mcamp_eq, c2, ← c1, true_implies, false_implies, implies_true, not_true_eq_false, not_false_eq_true, not_true, not_false_iff, and_true, true_and, and_false, false_and, true_or, or_true, i1n0, i0e0]
  by_cases h1 : wi x1 0 (s.1 0 1 4 - 1)
  case neg => simp [h1, hP _ _ hI2]
  by_cases h4 : wi x2 0 399
  case neg => simp [h1, h4, hP _ _ hI2]
  simp only [h1, h4, true_implies, false_implies, implies_true, not_true_eq_false, not_false_eq_true, not_true, not_false_iff, and_true, true_and, and_false, false_and, true_or, or_true, i1n0, i0e0]
  refine qc_loop hN hIR ?_ 24 0 N rfl (by omega)
  simp only [mcamp_eq, c2, ← c1, h1, h4, true_implies, false_implies, implies_true, not_true_eq_false, not_false_eq_true, not_true, not_false_iff, and_true, true_and, and_false, false_and, true_or, or_true, i1n0, i0e0]
  refine qk_loop hN hIR ?_ 24 0 N rfl (by omega)
  exact hP _ _ hI2
