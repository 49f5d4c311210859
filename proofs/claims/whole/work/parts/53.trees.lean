/-! trees -/
def lv (s : Sx) (p h : Nat) : Nat → Int32
  | 0 => s.1 0 22 p
  | n + 1 => (lv s p h n * s.1 0 24 (if n = 0 then h else h + 1)) / 100
theorem lv_1 (s : Sx) (p h : Nat) : lv s p h 1 = (lv s p h 0 * s.1 0 24 h) / 100 := rfl
theorem lv_s (s : Sx) (p h n : Nat) (hn : ¬ n = 0) : lv s p h (n + 1) = (lv s p h n * s.1 0 24 (h + 1)) / 100 := by
  show (lv s p h n * s.1 0 24 (if n = 0 then h else h + 1)) / 100 = _
  rw [if_neg hn]
theorem lc_loop {N p y t h : Nat} {s : Sx} {post : Int32 → Sx → Prop} (hp12 : p < 12) (ey : s.1 0 23 p = nI y) (hy : y ≤ 60) (hyt : y ≤ t) (ht : t ≤ 99) (hh : h ≤ 22) (hp : post (lv s p h (t - y)) s) : ∀ m n fuel, n + m = t - y → m < fuel → w_X8_liveIn_42 N post fuel s (nI p) (nI t) (lv s p h n) (nI h) (nI (n + 1)) := by
  have hv : vp_in (nI p) 12 := vp_in_nI hp12 (by decide)
  intro m
  induction m with
  | zero =>
    intro n fuel e1 e2
    obtain ⟨f, rfl⟩ : ∃ f, fuel = f + 1 := ⟨fuel - 1, by omega⟩
    simp only [w_X8_liveIn_42, hv, nI_clamp (show p < 2 ^ 31 by omega), ey, pk_sub hyt, nlt (show t - y < 2 ^ 31 by omega) (show n + 1 < 2 ^ 31 by omega), show t - y < n + 1 by omega, true_implies, false_implies, implies_true, not_true_eq_false, not_false_eq_true, not_true, not_false_iff, and_true, true_and, and_false, false_and, true_or, or_true, i1n0, i0e0]
    rw [show n = t - y by omega]
    exact hp
  | succ m ih =>
    intro n fuel e1 e2
    obtain ⟨f, rfl⟩ : ∃ f, fuel = f + 1 := ⟨fuel - 1, by omega⟩
    have hc := ih (n + 1) f (by omega) (by omega)
    have h1 : (nI (n + 1) = 1) = (n = 0) := by
      rw [show (1 : Int32) = nI 1 from rfl, neq (by omega) (by decide)]
      exact propext ⟨fun q => by omega, fun q => by omega⟩
    have hv1 : vp_in (nI h) 24 := vp_in_nI (by omega) (by decide)
    have hv2 : vp_in (nI (h + 1)) 24 := vp_in_nI (by omega) (by decide)
    simp only [w_X8_liveIn_42, w_X8_liveIn_75, hv, hv1, hv2, nI_clamp (show p < 2 ^ 31 by omega), nI_clamp (show h < 2 ^ 31 by omega), nI_clamp (show h + 1 < 2 ^ 31 by omega), ey, pk_sub hyt, nlt (show t - y < 2 ^ 31 by omega) (show n + 1 < 2 ^ 31 by omega), show ¬ t - y < n + 1 by omega, true_implies, false_implies, implies_true, not_true_eq_false, not_false_eq_true, not_true, not_false_iff, and_true, true_and, and_false, false_and, true_or, or_true, i1n0, i0e0, h1, nI_1, forall_eq]
    by_cases h0 : n = 0
    · subst h0
      simp only [true_implies, false_implies, implies_true, not_true_eq_false, not_false_eq_true, not_true, not_false_iff, and_true, true_and, and_false, false_and, true_or, or_true, i1n0, i0e0]
      exact hc
    · rw [lv_s _ _ _ _ h0] at hc
      simp only [h0, true_implies, false_implies, implies_true, not_true_eq_false, not_false_eq_true, not_true, not_false_iff, and_true, true_and, and_false, false_and, true_or, or_true, i1n0, i0e0]
      exact hc
theorem lm_loop {N p y t h : Nat} {s : Sx} {post : Int32 → Sx → Prop} (hp12 : p < 12) (ey : s.1 5 54 p = nI y) (et : ∀ i, i < 24 → s.1 0 24 i = s.1 5 49 i) (hy : y ≤ 60) (hyt : y ≤ t) (ht : t ≤ 99) (hh : h ≤ 22) (hp : post (lv s p h (t - y)) s) : ∀ m n fuel, n + m = t - y → m < fuel → w_X12_liveOf_49 N post fuel s (nI p) (nI t) (lv s p h n) (nI h) (nI (y + (n + 1))) := by
  have hv : vp_in (nI p) 12 := vp_in_nI hp12 (by decide)
  intro m
  induction m with
  | zero =>
    intro n fuel e1 e2
    obtain ⟨f, rfl⟩ : ∃ f, fuel = f + 1 := ⟨fuel - 1, by omega⟩
    simp only [w_X12_liveOf_49, nlt (show t < 2 ^ 31 by omega) (show y + (n + 1) < 2 ^ 31 by omega), show t < y + (n + 1) by omega, true_implies, false_implies, implies_true, not_true_eq_false, not_false_eq_true, not_true, not_false_iff, and_true, true_and, and_false, false_and, true_or, or_true, i1n0, i0e0]
    rw [show n = t - y by omega]
    exact hp
  | succ m ih =>
    intro n fuel e1 e2
    obtain ⟨f, rfl⟩ : ∃ f, fuel = f + 1 := ⟨fuel - 1, by omega⟩
    have hc := ih (n + 1) f (by omega) (by omega)
    have h1 : (nI (y + (n + 1)) = nI (y + 1)) = (n = 0) := by
      rw [neq (by omega) (by omega)]
      exact propext ⟨fun q => by omega, fun q => by omega⟩
    have hv1 : vp_in (nI h) 24 := vp_in_nI (by omega) (by decide)
    have hv2 : vp_in (nI (h + 1)) 24 := vp_in_nI (by omega) (by decide)
    simp only [w_X12_liveOf_49, w_X12_liveOf_82, hv, hv1, hv2, nI_clamp (show p < 2 ^ 31 by omega), nI_clamp (show h < 2 ^ 31 by omega), nI_clamp (show h + 1 < 2 ^ 31 by omega), ey, nlt (show t < 2 ^ 31 by omega) (show y + (n + 1) < 2 ^ 31 by omega), show ¬ t < y + (n + 1) by omega, true_implies, false_implies, implies_true, not_true_eq_false, not_false_eq_true, not_true, not_false_iff, and_true, true_and, and_false, false_and, true_or, or_true, i1n0, i0e0, nI_1, h1, forall_eq, ← et h (by omega), ← et (h + 1) (by omega)]
    by_cases h0 : n = 0
    · subst h0
      simp only [true_implies, false_implies, implies_true, not_true_eq_false, not_false_eq_true, not_true, not_false_iff, and_true, true_and, and_false, false_and, true_or, or_true, i1n0, i0e0]
      exact hc
    · rw [lv_s _ _ _ _ h0] at hc
      simp only [h0, true_implies, false_implies, implies_true, not_true_eq_false, not_false_eq_true, not_true, not_false_iff, and_true, true_and, and_false, false_and, true_or, or_true, i1n0, i0e0]
      exact hc
/-- what lives of the stand p in the year t -/
def lw (s : Sx) (p t : Nat) : Int32 := if s.1 0 23 p ≤ nI t then lv s p ((6 * s.1 0 20 p + 2 * s.1 0 21 p).toNatClampNeg) (t - (s.1 0 23 p).toNatClampNeg) else 0
theorem lc_eq {N p t : Nat} {s : Sx} {post : Int32 → Sx → Prop} (hN : 20000 ≤ N) (hI : IT s) (hp12 : p < 12) (ht : t ≤ 99) (hp : post (lw s p t) s) : w_X8_liveIn N (nI p) (nI t) s post := by
  obtain ⟨e1, e2, e3, e4, e5, e6, r1, r2, r3, r4, r5⟩ := hI
  have hv : vp_in (nI p) 12 := vp_in_nI hp12 (by decide)
  obtain ⟨y, hy, ey⟩ := wi_n (n := 60) (by decide) (r4 p)
  obtain ⟨a, ha, ea⟩ := wi_n (n := 3) (by decide) (r1 p)
  obtain ⟨b, hb, eb⟩ := wi_n (n := 2) (by decide) (r2 p)
  unfold lw at hp
  simp only [w_X8_liveIn, hv, nI_clamp (show p < 2 ^ 31 by omega), true_implies, false_implies, implies_true, not_true_eq_false, not_false_eq_true, not_true, not_false_iff, and_true, true_and, and_false, false_and, true_or, or_true, i1n0, i0e0, forall_eq]
  rw [ey, ea, eb] at hp ⊢
  rw [show (6 : Int32) = nI 6 from rfl, show (2 : Int32) = nI 2 from rfl, pk_mul, pk_mul, nI_add] at hp ⊢
  rw [nI_clamp (by omega), nI_clamp (by omega)] at hp
  by_cases h : nI y ≤ nI t
  · rw [if_pos h] at hp
    simp only [h, true_implies, false_implies, implies_true, not_true_eq_false, not_false_eq_true, not_true, not_false_iff, and_true, true_and, and_false, false_and, true_or, or_true, i1n0, i0e0]
    rw [nle (by omega) (by omega)] at h
    exact lc_loop hp12 ey hy h ht (by omega) hp (t - y) 0 N (by omega) (by omega)
  · rw [if_neg h] at hp
    simp only [h, true_implies, false_implies, implies_true, not_true_eq_false, not_false_eq_true, not_true, not_false_iff, and_true, true_and, and_false, false_and, true_or, or_true, i1n0, i0e0]
    exact hp
theorem lm_eq {N p t : Nat} {s : Sx} {post : Int32 → Sx → Prop} (hN : 20000 ≤ N) (hI : IT s) (hp12 : p < 12) (ht : t ≤ 99) (hp : post (lw s p t) s) : w_X12_liveOf N (nI p) (nI t) s post := by
  obtain ⟨e1, e2, e3, e4, e5, e6, r1, r2, r3, r4, r5⟩ := hI
  have hv : vp_in (nI p) 12 := vp_in_nI hp12 (by decide)
  obtain ⟨y, hy, ey⟩ := wi_n (n := 60) (by decide) (r4 p)
  obtain ⟨a, ha, ea⟩ := wi_n (n := 3) (by decide) (r1 p)
  obtain ⟨b, hb, eb⟩ := wi_n (n := 2) (by decide) (r2 p)
  unfold lw at hp
  simp only [w_X12_liveOf, hv, nI_clamp (show p < 2 ^ 31 by omega), true_implies, false_implies, implies_true, not_true_eq_false, not_false_eq_true, not_true, not_false_iff, and_true, true_and, and_false, false_and, true_or, or_true, i1n0, i0e0, forall_eq, ← e3, ← e4, ← e5, ← e6]
  rw [ey, ea, eb] at hp ⊢
  rw [show (6 : Int32) = nI 6 from rfl, show (2 : Int32) = nI 2 from rfl, pk_mul, pk_mul, nI_add] at hp ⊢
  rw [nI_clamp (by omega), nI_clamp (by omega)] at hp
  by_cases h : nI y ≤ nI t
  · rw [if_pos h] at hp
    simp only [h, true_implies, false_implies, implies_true, not_true_eq_false, not_false_eq_true, not_true, not_false_iff, and_true, true_and, and_false, false_and, true_or, or_true, i1n0, i0e0, nI_1]
    rw [nle (by omega) (by omega)] at h
    exact lm_loop hp12 (by rw [← e6]; exact ey) (fun i hi => (r5 i hi).1) hy h ht (by omega) hp (t - y) 0 N (by omega) (by omega)
  · rw [if_neg h] at hp
    simp only [h, true_implies, false_implies, implies_true, not_true_eq_false, not_false_eq_true, not_true, not_false_iff, and_true, true_and, and_false, false_and, true_or, or_true, i1n0, i0e0]
    exact hp
theorem cs_live {N k : Nat} {s : Sx} (hN : 20000 ≤ N) (hk : k ≤ 600) (hI : Inv k s) (x1 : Int32) (x2 : Int32) (P : Int32 → Int32 → Sx → Prop) (hP : ∀ r s', Inv (k + 1) s' → P r r s') : w_X11_live N x1 x2 s (fun r s1 => w_X12_live N x1 x2 s1 (fun r2 s2 => P r r2 s2)) := by
  have hI2 := hI.up
  obtain ⟨hIC, hIM, hIP, hIZ, hIR, hIY, hIW, hIT, hIF, hIL, hIS⟩ := id hI
  obtain ⟨e1, e2, -⟩ := id hIT
  have hm := fun (A B : Prop) => mord_eq (x := x1) (c := s.1 0 19 4) (M := 12) (by decide) e2 A B
  simp only [w_X11_live, w_X8_has, w_X11_isYear, wi_eq, true_implies, false_implies, implies_true, not_true_eq_false, not_false_eq_true, not_true, not_false_iff, and_true, true_and, and_false, false_and, true_or, or_true, i1n0, i0e0]
  simp only [w_X12_live, wm_eq, ← e1, true_implies, false_implies, implies_true, not_true_eq_false, not_false_eq_true, not_true, not_false_iff, and_true, true_and, and_false, false_and, true_or, or_true, i1n0, i0e0]
  rw [hm]
  by_cases h1 : wi x1 0 (s.1 0 19 4 - 1)
  case neg => simp only [h1, true_implies, false_implies, implies_true, not_true_eq_false, not_false_eq_true, not_true, not_false_iff, and_true, true_and, and_false, false_and, true_or, or_true, i1n0, i0e0, hm]; exact hP _ _ hI2
  obtain ⟨j, rfl, hj1, hj2, hj3, hj4⟩ := inC (M := 12) (by decide) e2 h1
  by_cases h2 : wi x2 0 99
  case neg => simp only [h1, h2, true_implies, false_implies, implies_true, not_true_eq_false, not_false_eq_true, not_true, not_false_iff, and_true, true_and, and_false, false_and, true_or, or_true, i1n0, i0e0, hm]; exact hP _ _ hI2
  obtain ⟨t, ht, rfl⟩ := wi_n (n := 99) (by decide) h2
  simp only [h1, h2, true_implies, false_implies, implies_true, not_true_eq_false, not_false_eq_true, not_true, not_false_iff, and_true, true_and, and_false, false_and, true_or, or_true, i1n0, i0e0]
  refine lc_eq hN hIT (by omega) ht ?_
  rw [← e1, hm]
  simp only [h1, true_implies, false_implies, implies_true, not_true_eq_false, not_false_eq_true, not_true, not_false_iff, and_true, true_and, and_false, false_and, true_or, or_true, i1n0, i0e0]
  refine lm_eq hN hIT (by omega) ht ?_
  exact hP _ _ hI2
def fo (s : Sx) (x : Int32) (t : Nat) : Nat → Int64
  | 0 => 0
  | n + 1 => if x = 4 ∨ s.1 0 20 n = x then fo s x t n + (lw s n t).toInt64 else fo s x t n
theorem fo_y {s : Sx} {x : Int32} {t n : Nat} (h : x = 4 ∨ s.1 0 20 n = x) : fo s x t (n + 1) = fo s x t n + (lw s n t).toInt64 := if_pos h
theorem fo_n {s : Sx} {x : Int32} {t n : Nat} (h : ¬ (x = 4 ∨ s.1 0 20 n = x)) : fo s x t (n + 1) = fo s x t n := if_neg h
theorem fc_loop {N t c : Nat} {s : Sx} {x : Int32} {post : Int64 → Sx → Prop} (hN : 20000 ≤ N) (hI : IT s) (ec : s.1 0 19 4 = nI c) (hc : c ≤ 12) (ht : t ≤ 99) (hp : post (fo s x t c) s) : ∀ m n fuel, n + m = c → m < fuel → w_X8_liveOfKind_5 N post fuel s x (nI t) (fo s x t n) (nI n) := by
  intro m
  induction m with
  | zero =>
    intro n fuel e1 e2
    obtain ⟨f, rfl⟩ : ∃ f, fuel = f + 1 := ⟨fuel - 1, by omega⟩
    simp only [w_X8_liveOfKind_5, ec, nle (show c < 2 ^ 31 by omega) (show n < 2 ^ 31 by omega), show c ≤ n by omega, true_implies, false_implies, implies_true, not_true_eq_false, not_false_eq_true, not_true, not_false_iff, and_true, true_and, and_false, false_and, true_or, or_true, i1n0, i0e0]
    rw [show n = c by omega]
    exact hp
  | succ m ih =>
    intro n fuel e1 e2
    obtain ⟨f, rfl⟩ : ∃ f, fuel = f + 1 := ⟨fuel - 1, by omega⟩
    have hr := ih (n + 1) f (by omega) (by omega)
    have hv : vp_in (nI n) 12 := vp_in_nI (by omega) (by decide)
    simp only [w_X8_liveOfKind_5, w_X8_liveOfKind_30, ec, nle (show c < 2 ^ 31 by omega) (show n < 2 ^ 31 by omega), show ¬ c ≤ n by omega, true_implies, false_implies, implies_true, not_true_eq_false, not_false_eq_true, not_true, not_false_iff, and_true, true_and, and_false, false_and, true_or, or_true, i1n0, i0e0, hv, nI_clamp (show n < 2 ^ 31 by omega), forall_eq, nI_1]
    by_cases h4 : x = 4
    · rw [fo_y (Or.inl h4)] at hr
      simp only [h4, true_implies, false_implies, implies_true, not_true_eq_false, not_false_eq_true, not_true, not_false_iff, and_true, true_and, and_false, false_and, true_or, or_true, i1n0, i0e0] at hr ⊢
      exact lc_eq hN hI (by omega) ht hr
    · by_cases h5 : s.1 0 20 n = x
      · rw [fo_y (Or.inr h5)] at hr
        simp only [h4, h5, true_implies, false_implies, implies_true, not_true_eq_false, not_false_eq_true, not_true, not_false_iff, and_true, true_and, and_false, false_and, true_or, or_true, i1n0, i0e0]
        exact lc_eq hN hI (by omega) ht hr
      · rw [fo_n (fun q => q.elim h4 h5)] at hr
        simp only [h4, h5, true_implies, false_implies, implies_true, not_true_eq_false, not_false_eq_true, not_true, not_false_iff, and_true, true_and, and_false, false_and, true_or, or_true, i1n0, i0e0]
        exact hr
theorem fm_loop {N t c : Nat} {s : Sx} {x : Int32} {post : Int64 → Sx → Prop} (hN : 20000 ≤ N) (hI : IT s) (ec : s.1 6 0 50 = nI c) (hc : c ≤ 12) (ht : t ≤ 99) (hp : post (fo s x t c) s) : ∀ m n fuel, n + m = c → m < fuel → w_X12_forest_28 N post fuel s x (nI t) (fo s x t n) (nI n) := by
  intro m
  induction m with
  | zero =>
    intro n fuel e1 e2
    obtain ⟨f, rfl⟩ : ∃ f, fuel = f + 1 := ⟨fuel - 1, by omega⟩
    simp only [w_X12_forest_28, ec, nle (show c < 2 ^ 31 by omega) (show n < 2 ^ 31 by omega), show c ≤ n by omega, true_implies, false_implies, implies_true, not_true_eq_false, not_false_eq_true, not_true, not_false_iff, and_true, true_and, and_false, false_and, true_or, or_true, i1n0, i0e0]
    rw [show n = c by omega]
    exact hp
  | succ m ih =>
    intro n fuel e1 e2
    obtain ⟨f, rfl⟩ : ∃ f, fuel = f + 1 := ⟨fuel - 1, by omega⟩
    have hr := ih (n + 1) f (by omega) (by omega)
    have hv : vp_in (nI n) 12 := vp_in_nI (by omega) (by decide)
    simp only [w_X12_forest_28, w_X12_forest_54, ec, nle (show c < 2 ^ 31 by omega) (show n < 2 ^ 31 by omega), show ¬ c ≤ n by omega, true_implies, false_implies, implies_true, not_true_eq_false, not_false_eq_true, not_true, not_false_iff, and_true, true_and, and_false, false_and, true_or, or_true, i1n0, i0e0, hv, nI_clamp (show n < 2 ^ 31 by omega), forall_eq, nI_1, Int64.add_zero, ← hI.2.2.1]
    by_cases h4 : x = 4
    · rw [fo_y (Or.inl h4)] at hr
      simp only [h4, true_implies, false_implies, implies_true, not_true_eq_false, not_false_eq_true, not_true, not_false_iff, and_true, true_and, and_false, false_and, true_or, or_true, i1n0, i0e0] at hr ⊢
      exact lm_eq hN hI (by omega) ht hr
    · by_cases h5 : s.1 0 20 n = x
      · rw [fo_y (Or.inr h5)] at hr
        simp only [h4, h5, true_implies, false_implies, implies_true, not_true_eq_false, not_false_eq_true, not_true, not_false_iff, and_true, true_and, and_false, false_and, true_or, or_true, i1n0, i0e0]
        exact lm_eq hN hI (by omega) ht hr
      · rw [fo_n (fun q => q.elim h4 h5)] at hr
        simp only [h4, h5, true_implies, false_implies, implies_true, not_true_eq_false, not_false_eq_true, not_true, not_false_iff, and_true, true_and, and_false, false_and, true_or, or_true, i1n0, i0e0]
        exact hr
theorem cs_forest {N k : Nat} {s : Sx} (hN : 20000 ≤ N) (hk : k ≤ 600) (hI : Inv k s) (x1 : Int32) (x2 : Int32) (P : Int64 → Int64 → Sx → Prop) (hP : ∀ r s', Inv (k + 1) s' → P r r s') : w_X11_forest N x1 x2 s (fun r s1 => w_X12_forest N x1 x2 s1 (fun r2 s2 => P r r2 s2)) := by
  have hI2 := hI.up
  obtain ⟨hIC, hIM, hIP, hIZ, hIR, hIY, hIW, hIT, hIF, hIL, hIS⟩ := id hI
  obtain ⟨e1, e2, -⟩ := id hIT
  obtain ⟨c, hc, ec⟩ := wi_n (n := 12) (by decide) e2
  simp only [w_X11_forest, w_X8_liveOfKind, w_X11_isYear, wi_eq, true_implies, false_implies, implies_true, not_true_eq_false, not_false_eq_true, not_true, not_false_iff, and_true, true_and, and_false, false_and, true_or, or_true, i1n0, i0e0, w_X12_forest, wm_eq]
  by_cases h1 : wi x1 0 4
  case neg => simp [h1, hP _ _ hI2]
  by_cases h2 : wi x2 0 99
  case neg => simp [h1, h2, hP _ _ hI2]
  obtain ⟨t, ht, rfl⟩ := wi_n (n := 99) (by decide) h2
  simp only [h1, h2, true_implies, false_implies, implies_true, not_true_eq_false, not_false_eq_true, not_true, not_false_iff, and_true, true_and, and_false, false_and, true_or, or_true, i1n0, i0e0]
  refine fc_loop hN hIT ec hc ht ?_ c 0 N (by omega) (by omega)
  refine fm_loop hN hIT (by rw [← e1]; exact ec) hc ht ?_ c 0 N (by omega) (by omega)
  exact hP _ _ hI2
