def FR (T M : Sx) : Prop := M.2 = T.2 ∧ (∀ k, k ≠ 5 → k ≠ 6 → M.1 k = T.1 k) ∧ (∀ c i, ¬ (i = 12 ∧ 17 ≤ c ∧ c ≤ 22) → M.1 5 c i = T.1 5 c i) ∧ (∀ i, i ≠ 25 → i ≠ 26 → i ≠ 27 → M.1 6 0 i = T.1 6 0 i)
def FM (T M : Sx) (b n a : Nat) : Prop := FR T M ∧ M.1 6 0 25 = nI (b + a) ∧ M.1 6 0 26 = nI (b + n)
def FE (T M : Sx) (b q : Nat) : Prop := FR T M ∧ M.1 6 0 27 = nI (b + q)
theorem FR.set {T M : Sx} {c : Nat} {v : Int32} (h : FR T M) (h1 : 17 ≤ c) (h2 : c ≤ 22) : FR T (setI M 5 c 12 v) := by
  obtain ⟨g1, g2, g3, g4⟩ := h
  refine ⟨g1, fun k k5 k6 => ?_, fun c' i hi => ?_, fun i i1 i2 i3 => ?_⟩
  · funext u; rw [rdI, if_neg (by omega), g2 k k5 k6]
  · rw [rdI]
    by_cases e : c' = c
    · subst e
      rw [if_pos ⟨rfl, rfl⟩, rdU, if_neg (by omega)]
      exact g3 _ i hi
    · rw [if_neg (by omega)]
      exact g3 c' i hi
  · rw [rdI, if_neg (by omega)]
    exact g4 i i1 i2 i3
theorem FR.set6 {T M : Sx} {c : Nat} {v : Int32} (h : FR T M) (h1 : c = 25 ∨ c = 26 ∨ c = 27) : FR T (setI M 6 0 c v) := by
  obtain ⟨g1, g2, g3, g4⟩ := h
  refine ⟨g1, fun k k5 k6 => ?_, fun c' i hi => ?_, fun i i1 i2 i3 => ?_⟩
  · funext u; rw [rdI, if_neg (by omega), g2 k k5 k6]
  · rw [rdI, if_neg (by omega)]
    exact g3 c' i hi
  · rw [rdI, if_pos ⟨rfl, rfl⟩, rdU, if_neg (by omega)]
    exact g4 i i1 i2 i3
theorem FM.set {T M : Sx} {b n a c : Nat} {v : Int32} (h : FM T M b n a) (h1 : 17 ≤ c) (h2 : c ≤ 22) : FM T (setI M 5 c 12 v) b n a := ⟨h.1.set h1 h2, h.2.1, h.2.2⟩
theorem FE.set {T M : Sx} {b q c : Nat} {v : Int32} (h : FE T M b q) (h1 : 17 ≤ c) (h2 : c ≤ 22) : FE T (setI M 5 c 12 v) b q := ⟨h.1.set h1 h2, h.2⟩
theorem FM.at_ {T M : Sx} {b n a a2 : Nat} (h : FM T M b n a) : FM T (setI M 6 0 25 (nI (b + a2))) b n a2 := ⟨h.1.set6 (Or.inl rfl), rfl, h.2.2⟩
theorem FM.flt {T M : Sx} {b n a q : Nat} (h : FM T M b n a) : FE T (setI M 6 0 27 (nI (b + q))) b q := ⟨h.1.set6 (Or.inr (Or.inr rfl)), rfl⟩
theorem FM.cell {T M : Sx} {b n a u : Nat} (h : FM T M b n a) : M.1 5 4 u = T.1 5 4 u := h.1.2.2.1 4 u (by omega)
theorem sg_m {N b n a : Nat} {T M : Sx} {x : Int32} {f : Nat → Int32} {post : Int32 → Sx → Prop} (hbn : b + n ≤ 240) (hf : ∀ u, u < n → f u = T.1 5 4 (b + u)) (h : FM T M b n a) (ha : a ≤ n) (g1 : ∀ a' M', psg f n x a = some a' → FM T M' b n a' → M'.1 5 = M.1 5 → post 1 M') (g0 : ∀ M', psg f n x a = none → FE T M' b a → post 0 M') : w_X12_isSign N x M post := by
  unfold psg at g1 g0
  simp only [w_X12_isSign, w_X12_isSign_36, h.2.1, h.2.2, nle (show b + n < 2 ^ 31 by omega) (show b + a < 2 ^ 31 by omega), forall_eq]
  by_cases c1 : b + n ≤ b + a
  · rw [if_neg (by omega)] at g0
    simp only [c1, true_implies, false_implies, implies_true, not_true_eq_false, not_false_eq_true, not_true, not_false_iff, and_true, true_and, and_false, false_and, true_or, or_true, i1n0, i0e0]
    exact g0 _ rfl h.flt
  have hv : vp_in (nI (b + a)) 240 := vp_in_nI (by omega) (by decide)
  simp only [c1, hv, true_implies, false_implies, implies_true, not_true_eq_false, not_false_eq_true, not_true, not_false_iff, and_true, true_and, and_false, false_and, true_or, or_true, i1n0, i0e0, nI_clamp (show b + a < 2 ^ 31 by omega), h.cell, ← hf a (by omega), nI_1, Nat.add_assoc]
  by_cases c2 : f a = x
  · rw [if_pos ⟨by omega, c2⟩] at g1
    simp only [c2, true_implies, false_implies, implies_true, not_true_eq_false, not_false_eq_true, not_true, not_false_iff, and_true, true_and, and_false, false_and, true_or, or_true, i1n0, i0e0]
    exact g1 (a + 1) _ rfl h.at_ rfl
  · rw [if_neg (fun q => c2 q.2)] at g0
    simp only [c2, true_implies, false_implies, implies_true, not_true_eq_false, not_false_eq_true, not_true, not_false_iff, and_true, true_and, and_false, false_and, true_or, or_true, i1n0, i0e0]
    exact g0 _ rfl h.flt
theorem nm_ml {N b n d st : Nat} {T : Sx} {lo hi : Int32} {f : Nat → Int32} {post : Int32 → Sx → Prop} (hbn : b + n ≤ 240) (hd : d ≤ 3) (hf : ∀ u, u < n → f u = T.1 5 4 (b + u)) : ∀ m a fuel (M : Sx) (v : Int32), m < fuel → FM T M b n a → a ≤ n → st ≤ a → a + m = st + d → (∀ a' M', a' ≤ n → (rdn f n m a v).1 = a' → FM T M' b n a' → M'.1 5 = M.1 5 → w_X12_number_83 N post M' lo hi (nI (b + st)) (rdn f n m a v).2) → w_X12_number_9 N post fuel M (nI d) lo hi (nI (b + st)) v := by
  intro m
  induction m with
  | zero =>
    intro a fuel M v hfu h ha hst hm g
    obtain ⟨fu, rfl⟩ : ∃ g, fuel = g + 1 := ⟨fuel - 1, by omega⟩
    have hh := g a M ha rfl h rfl
    simp only [w_X12_number_9, h.2.1, h.2.2, nI_add, nle (show b + n < 2 ^ 31 by omega) (show b + a < 2 ^ 31 by omega), nle (show b + st + d < 2 ^ 31 by omega) (show b + a < 2 ^ 31 by omega), show b + st + d ≤ b + a by omega, true_implies, false_implies, implies_true, not_true_eq_false, not_false_eq_true, not_true, not_false_iff, and_true, true_and, and_false, false_and, true_or, or_true, i1n0, i0e0]
    exact ⟨fun _ => hh, fun _ => hh⟩
  | succ m ih =>
    intro a fuel M v hfu h ha hst hm g
    obtain ⟨fu, rfl⟩ : ∃ g, fuel = g + 1 := ⟨fuel - 1, by omega⟩
    simp only [w_X12_number_9, h.2.1, h.2.2, nI_add, nle (show b + n < 2 ^ 31 by omega) (show b + a < 2 ^ 31 by omega), nle (show b + st + d < 2 ^ 31 by omega) (show b + a < 2 ^ 31 by omega), show ¬ b + st + d ≤ b + a by omega, true_implies, false_implies, implies_true, not_true_eq_false, not_false_eq_true, not_true, not_false_iff, and_true, true_and, and_false, false_and, true_or, or_true, i1n0, i0e0]
    by_cases c1 : b + n ≤ b + a
    · have hh := g a M ha (by rw [rdn_n (fun q => by omega)]) h rfl
      rw [rdn_n (fun q => by omega)] at hh
      simp only [c1, true_implies, false_implies, implies_true, not_true_eq_false, not_false_eq_true, not_true, not_false_iff, and_true, true_and, and_false, false_and, true_or, or_true, i1n0, i0e0]
      exact hh
    have hv : vp_in (nI (b + a)) 240 := vp_in_nI (by omega) (by decide)
    simp only [c1, hv, true_implies, false_implies, implies_true, not_true_eq_false, not_false_eq_true, not_true, not_false_iff, and_true, true_and, and_false, false_and, true_or, or_true, i1n0, i0e0, wm_eq, nI_clamp (show b + a < 2 ^ 31 by omega), h.cell, ← hf a (by omega), h.2.1, forall_eq, nI_1, Nat.add_assoc]
    by_cases c2 : wi (f a) 48 57
    case neg =>
      have hh := g a M ha (by rw [rdn_n (fun q => c2 q.2)]) h rfl
      rw [rdn_n (fun q => c2 q.2)] at hh
      simp only [c2, true_implies, false_implies, implies_true, not_true_eq_false, not_false_eq_true, not_true, not_false_iff, and_true, true_and, and_false, false_and, true_or, or_true, i1n0, i0e0]
      exact hh
    simp only [c2, true_implies, false_implies, implies_true, not_true_eq_false, not_false_eq_true, not_true, not_false_iff, and_true, true_and, and_false, false_and, true_or, or_true, i1n0, i0e0]
    refine ih (a + 1) fu _ _ (by omega) h.at_ (by omega) (by omega) (by omega) (fun a' M' hb e1 e2 e3 => ?_)
    have hh := g a' M' hb (by rw [rdn_y ⟨by omega, c2⟩]; exact e1) e2 e3
    rw [rdn_y ⟨by omega, c2⟩] at hh
    exact hh
theorem nm_m {N b n a d : Nat} {T M : Sx} {lo hi : Int32} {f : Nat → Int32} {post : Int32 → Sx → Prop} (hN : 20000 ≤ N) (hbn : b + n ≤ 240) (hd : d ≤ 3) (hf : ∀ u, u < n → f u = T.1 5 4 (b + u)) (h : FM T M b n a) (ha : a ≤ n) (g1 : ∀ v a' M', pnm f n d lo hi a = some (v, a') → FM T M' b n a' → M'.1 5 = M.1 5 → post v M') (g0 : ∀ M', pnm f n d lo hi a = none → FE T M' b a → post (-1) M') : w_X12_number N (nI d) lo hi M post := by
  simp only [w_X12_number, forall_eq, h.2.1]
  refine nm_ml (st := a) hbn hd hf d a N M 0 (by omega) h ha (Nat.le_refl _) (by omega) (fun a' M' hb e1 e2 e3 => ?_)
  unfold pnm at g1 g0
  rw [e1] at g1 g0
  simp only [w_X12_number_83, w_X12_number_102, e2.2.1, wm_eq, true_implies, false_implies, implies_true, not_true_eq_false, not_false_eq_true, not_true, not_false_iff, and_true, true_and, and_false, false_and, true_or, or_true, i1n0, i0e0, forall_eq, neq (show b + a' < 2 ^ 31 by omega) (show b + a < 2 ^ 31 by omega)]
  by_cases c1 : a' = a
  · rw [if_pos (Or.inl c1)] at g0
    simp only [show b + a' = b + a by omega, true_implies, false_implies, implies_true, not_true_eq_false, not_false_eq_true, not_true, not_false_iff, and_true, true_and, and_false, false_and, true_or, or_true, i1n0, i0e0]
    exact g0 _ rfl e2.flt
  · by_cases c2 : wi (rdn f n d a 0).2 lo hi
    · rw [if_neg (fun q => q.elim c1 (fun w => w c2))] at g1
      simp only [show ¬ b + a' = b + a by omega, c2, true_implies, false_implies, implies_true, not_true_eq_false, not_false_eq_true, not_true, not_false_iff, and_true, true_and, and_false, false_and, true_or, or_true, i1n0, i0e0]
      exact g1 _ a' M' rfl e2 e3
    · rw [if_pos (Or.inr c2)] at g0
      simp only [show ¬ b + a' = b + a by omega, c2, true_implies, false_implies, implies_true, not_true_eq_false, not_false_eq_true, not_true, not_false_iff, and_true, true_and, and_false, false_and, true_or, or_true, i1n0, i0e0]
      exact g0 _ rfl e2.flt
theorem w48 (x : Int32) : wi (x - 48) 0 9 ↔ wi x 48 57 := by
  rw [wi_i, wi_i, Int32.toInt_sub, show (48 : Int32).toInt = 48 from by decide, show (57 : Int32).toInt = 57 from by decide, show (0 : Int32).toInt = 0 from by decide, show (9 : Int32).toInt = 9 from by decide]
  have h1 := Int32.toInt_lt x
  have h2 := Int32.le_toInt x
  by_cases c : x.toInt < -2147483600
  · have : (x.toInt - 48).bmod (2 ^ 32) = x.toInt - 48 + 2 ^ 32 := by
      rw [← Int.add_bmod_right, Int.bmod_eq_of_le] <;> omega
    rw [this]
    omega
  · rw [Int.bmod_eq_of_le] <;> omega
theorem lo_m {N b n cnt : Nat} {T : Sx} {f : Nat → Int32} {post : Int32 → Sx → Prop} (hc7 : cnt ≤ 7) (hbn : b + n ≤ 240) (hf : ∀ u, u < n → f u = T.1 5 4 (b + u)) (ec : T.1 6 0 5 = nI cnt) : ∀ m a fuel (M : Sx), m + 1 < fuel → n - a ≤ m → FM T M b n a → a ≤ n → (∀ k M', plo f n cnt (m + 1) a (M.1 5 22 12) = .ok k → FR T M' → M'.1 5 22 12 = k → (∀ c, c < 22 → M'.1 5 c = M.1 5 c) → post 1 M') → (∀ q M', plo f n cnt (m + 1) a (M.1 5 22 12) = .error q → FE T M' b q → post 0 M') → w_X12_reads_241 N post fuel M 1 := by
  have n10 : ¬ (1 : Int32) = 0 := by decide
  have hv12 : vp_in 12 13 := vp_in_nI (n := 12) (by decide) (by decide)
  have h12 : (12 : Int32).toNatClampNeg = 12 := by decide
  have hcw : wi (nI cnt) 0 7 := wi_nI (M := 7) hc7 (by decide)
  intro m
  induction m with
  | zero =>
    intro a fuel M hfu hm h ha g1 g0
    obtain ⟨fu, rfl⟩ : ∃ g, fuel = g + 1 := ⟨fuel - 1, by omega⟩
    rw [plo_n (fun q => by omega)] at g0
    have w9 : ¬ wi (-9) 0 9 := fun q => absurd (wi_i.mp q).1 (by decide)
    simp only [w_X12_reads_241, w_X12_reads_273, w_X12_reads_311, n10, h.2.1, h.2.2, nle (show b + n < 2 ^ 31 by omega) (show b + a < 2 ^ 31 by omega), show b + n ≤ b + a by omega, true_implies, false_implies, implies_true, not_true_eq_false, not_false_eq_true, not_true, not_false_iff, and_true, true_and, and_false, false_and, true_or, or_true, i1n0, i0e0, wm_eq, w9, forall_eq]
    exact g0 a _ rfl h.flt
  | succ m ih =>
    intro a fuel M hfu hm h ha g1 g0
    obtain ⟨fu, rfl⟩ : ∃ g, fuel = g + 1 := ⟨fuel - 1, by omega⟩
    by_cases c0 : b + n ≤ b + a
    · rw [plo_n (fun q => by omega)] at g0
      have w9 : ¬ wi (-9) 0 9 := fun q => absurd (wi_i.mp q).1 (by decide)
      simp only [w_X12_reads_241, w_X12_reads_273, w_X12_reads_311, n10, h.2.1, h.2.2, nle (show b + n < 2 ^ 31 by omega) (show b + a < 2 ^ 31 by omega), c0, true_implies, false_implies, implies_true, not_true_eq_false, not_false_eq_true, not_true, not_false_iff, and_true, true_and, and_false, false_and, true_or, or_true, i1n0, i0e0, wm_eq, w9, forall_eq]
      exact g0 a _ rfl h.flt
    have hv : vp_in (nI (b + a)) 240 := vp_in_nI (by omega) (by decide)
    have ec' : M.1 6 0 5 = nI cnt := by rw [h.1.2.2.2 5 (by decide) (by decide) (by decide), ec]
    have ecw : wi (M.1 6 0 5) 0 7 := by rw [ec']; exact hcw
    simp only [w_X12_reads_241, w_X12_reads_273, w_X12_reads_311, n10, h.2.1, h.2.2, nle (show b + n < 2 ^ 31 by omega) (show b + a < 2 ^ 31 by omega), c0, hv, true_implies, false_implies, implies_true, not_true_eq_false, not_false_eq_true, not_true, not_false_iff, and_true, true_and, and_false, false_and, true_or, or_true, i1n0, i0e0, wm_eq, nI_clamp (show b + a < 2 ^ 31 by omega), h.cell, ← hf a (by omega), forall_eq, mcamp_eq ecw, ec', hv12, h12]
    by_cases c1 : wi (f a) 48 57
    case neg =>
      rw [plo_n (fun q => c1 q.2.1)] at g0
      have c1' : ¬ wi (f a - 48) 0 9 := fun q => c1 ((w48 _).mp q)
      simp only [c1', true_implies, false_implies, implies_true, not_true_eq_false, not_false_eq_true, not_true, not_false_iff, and_true, true_and, and_false, false_and, true_or, or_true, i1n0, i0e0]
      exact g0 a _ rfl h.flt
    have c1' : wi (f a - 48) 0 9 := (w48 _).mpr c1
    by_cases c2 : wi (f a - 48) 0 (nI cnt - 1)
    case neg =>
      rw [plo_n (fun q => c2 q.2.2.1)] at g0
      simp only [c1', c2, true_implies, false_implies, implies_true, not_true_eq_false, not_false_eq_true, not_true, not_false_iff, and_true, true_and, and_false, false_and, true_or, or_true, i1n0, i0e0]
      exact g0 a _ rfl h.flt
    rcases b01 (M.1 5 22 12 >>> ((f a - 48) &&& 31)) with c3 | c3
    · rw [plo_y ⟨by omega, c1, c2, c3⟩] at g1 g0
      have hM := (h.set (c := 22) (v := M.1 5 22 12 ||| (1 <<< ((f a - 48) &&& 31))) (by decide) (by decide)).at_ (a2 := a + 1)
      have e25 : (setI M 5 22 12 (M.1 5 22 12 ||| (1 <<< ((f a - 48) &&& 31)))).1 6 0 25 = nI (b + a) := h.2.1
      simp only [c1', c2, c3, i0n1, true_implies, false_implies, implies_true, not_true_eq_false, not_false_eq_true, not_true, not_false_iff, and_true, true_and, and_false, false_and, true_or, or_true, i1n0, i0e0, e25, nI_1, Nat.add_assoc, hM.2.1, hM.2.2, nle (show b + n < 2 ^ 31 by omega) (show b + (a + 1) < 2 ^ 31 by omega)]
      by_cases c4 : a + 1 < n
      · rw [if_pos c4] at g1 g0
        simp only [show ¬ b + n ≤ b + (a + 1) by omega, true_implies, false_implies, implies_true, not_true_eq_false, not_false_eq_true, not_true, not_false_iff, and_true, true_and, and_false, false_and, true_or, or_true, i1n0, i0e0]
        refine ih (a + 1) fu _ (by omega) (by omega) hM (by omega) (fun k M' q1 q2 q3 q4 => ?_) (fun q M' q1 q2 => ?_)
        · exact g1 k M' q1 q2 q3 (fun c hc => by rw [q4 c hc, rdI, if_neg (by omega), rdI, if_neg (by omega)])
        · exact g0 q M' q1 q2
      · rw [if_neg c4] at g1 g0
        simp only [show b + n ≤ b + (a + 1) by omega, true_implies, false_implies, implies_true, not_true_eq_false, not_false_eq_true, not_true, not_false_iff, and_true, true_and, and_false, false_and, true_or, or_true, i1n0, i0e0]
        obtain ⟨fv, rfl⟩ : ∃ g, fu = g + 1 := ⟨fu - 1, by omega⟩
        simp only [w_X12_reads_241, true_implies, false_implies, implies_true, not_true_eq_false, not_false_eq_true, not_true, not_false_iff, and_true, true_and, and_false, false_and, true_or, or_true, i1n0, i0e0]
        exact g1 _ _ rfl hM.1 rfl (fun c hc => by rw [rdI, if_neg (by omega), rdI, if_neg (by omega)])
    · rw [plo_n (fun q => by have := q.2.2.2; rw [c3] at this; exact absurd this (by decide))] at g0
      simp only [c1', c2, c3, true_implies, false_implies, implies_true, not_true_eq_false, not_false_eq_true, not_true, not_false_iff, and_true, true_and, and_false, false_and, true_or, or_true, i1n0, i0e0]
      exact g0 a _ rfl h.flt
theorem i0le {v lo hi : Int32} (h : wi v lo hi) (h0 : (0 : Int32) ≤ lo) : ¬ v < 0 ∧ (0 : Int32) ≤ v := by
  have h1 := wi_i.mp h
  rw [le_] at h0
  rw [lt_, le_]
  omega
set_option maxHeartbeats 1000000 in
theorem rd_m {N b n cnt : Nat} {T : Sx} {f : Nat → Int32} {post : Int32 → Sx → Prop} (hN : 20000 ≤ N) (hc7 : cnt ≤ 7) (hn : n ≤ 60) (hbn : b + n ≤ 240) (hf : ∀ u, u < n → f u = T.1 5 4 (b + u)) (ec : T.1 6 0 5 = nI cnt) (g1 : ∀ o fh th fd td k M', prs f n cnt = .ok (o, fh, th, fd, td, k) → wi o 0 4 → FR T M' → M'.1 5 17 12 = o → M'.1 5 18 12 = fh → M'.1 5 19 12 = th → M'.1 5 20 12 = fd → M'.1 5 21 12 = td → M'.1 5 22 12 = k → post 1 M') (g0 : ∀ q M', prs f n cnt = .error q → FE T M' b q → post 0 M') : w_X12_reads N (nI b) (nI n) T post := by
  have hv12 : vp_in 12 13 := vp_in_nI (n := 12) (by decide) (by decide)
  have h12 : (12 : Int32).toNatClampNeg = 12 := by decide
  have m10 : (-1 : Int32) < 0 := by decide
  have m11 : ¬ (0 : Int32) ≤ (-1) := by decide
  have us : ∀ (M : Sx) (c : Nat) (v : Int32), (setI M 5 c 12 v).1 5 c 12 = v := fun M c v => by rw [rdI, if_pos ⟨rfl, rfl⟩, rdU, if_pos rfl]
  have uz : ∀ (M : Sx) (c c' : Nat) (v : Int32), c' ≠ c → (setI M 5 c 12 v).1 5 c' 12 = M.1 5 c' 12 := fun M c c' v h => by rw [rdI, if_neg (by omega)]
  simp only [w_X12_reads, forall_eq, nI_add]
  have h0 : FM T (setI (setI T 6 0 25 (nI b)) 6 0 26 (nI (b + n))) b n 0 := ⟨(FR.set6 (FR.set6 ⟨rfl, fun _ _ _ => rfl, fun _ _ _ => rfl, fun _ _ _ _ => rfl⟩ (Or.inl rfl)) (Or.inr (Or.inl rfl))), rfl, rfl⟩
  refine sg_m hbn hf h0 (by omega) (fun a1 M1 r1 C1 z1 => ?_) (fun M1 r1 hF => ?_)
  case refine_2 =>
    have hE : prs f n cnt = .error 0 := by simp only [prs, r1]
    simp only [true_implies, false_implies, implies_true, not_true_eq_false, not_false_eq_true, not_true, not_false_iff, and_true, true_and, and_false, false_and, true_or, or_true, i1n0, i0e0]
    exact g0 _ _ hE hF
  simp only [true_implies, false_implies, implies_true, not_true_eq_false, not_false_eq_true, not_true, not_false_iff, and_true, true_and, and_false, false_and, true_or, or_true, i1n0, i0e0, i1n0]
  have l1 := psg_le r1
  refine nm_m (d := 1) hN hbn (by decide) hf C1 l1 (fun o a2 M2 r2 C2 z2 => ?_) (fun M2 r2 hF => ?_)
  case refine_2 =>
    have hE : prs f n cnt = .error a1 := by simp only [prs, r1, r2]
    simp only [hv12, h12, us, m10, true_implies, false_implies, implies_true, not_true_eq_false, not_false_eq_true, not_true, not_false_iff, and_true, true_and, and_false, false_and, true_or, or_true, i1n0, i0e0]
    exact g0 _ _ hE (hF.set (by decide) (by decide))
  obtain ⟨l2, w2⟩ := pnm_le l1 r2
  have D2 := C2.set (c := 17) (v := o) (by decide) (by decide)
  simp only [hv12, h12, us, (i0le w2 (by decide)).1, true_implies, false_implies, implies_true, not_true_eq_false, not_false_eq_true, not_true, not_false_iff, and_true, true_and, and_false, false_and, true_or, or_true, i1n0, i0e0]
  refine sg_m hbn hf D2 l2 (fun a3 M3 r3 C3 z3 => ?_) (fun M3 r3 hF => ?_)
  case refine_2 =>
    have hE : prs f n cnt = .error a2 := by simp only [prs, r1, r2, r3]
    simp only [true_implies, false_implies, implies_true, not_true_eq_false, not_false_eq_true, not_true, not_false_iff, and_true, true_and, and_false, false_and, true_or, or_true, i1n0, i0e0]
    exact g0 _ _ hE hF
  simp only [true_implies, false_implies, implies_true, not_true_eq_false, not_false_eq_true, not_true, not_false_iff, and_true, true_and, and_false, false_and, true_or, or_true, i1n0, i0e0, i1n0]
  have l3 := psg_le r3
  have k3 : M3.1 5 17 12 = o := by rw [z3, us]
  refine nm_m (d := 2) hN hbn (by decide) hf C3 l3 (fun fh a4 M4 r4 C4 z4 => ?_) (fun M4 r4 hF => ?_)
  case refine_2 =>
    have hE : prs f n cnt = .error a3 := by simp only [prs, r1, r2, r3, r4]
    simp only [hv12, h12, us, m10, true_implies, false_implies, implies_true, not_true_eq_false, not_false_eq_true, not_true, not_false_iff, and_true, true_and, and_false, false_and, true_or, or_true, i1n0, i0e0]
    exact g0 _ _ hE (hF.set (by decide) (by decide))
  obtain ⟨l4, w4⟩ := pnm_le l3 r4
  have fh0 := i0le w4 (by decide)
  have k4 : M4.1 5 17 12 = o := by rw [z4, k3]
  have D4 := C4.set (c := 18) (v := fh) (by decide) (by decide)
  simp only [hv12, h12, us, fh0.1, true_implies, false_implies, implies_true, not_true_eq_false, not_false_eq_true, not_true, not_false_iff, and_true, true_and, and_false, false_and, true_or, or_true, i1n0, i0e0]
  refine sg_m hbn hf D4 l4 (fun a5 M5 r5 C5 z5 => ?_) (fun M5 r5 hF => ?_)
  case refine_2 =>
    have hE : prs f n cnt = .error a4 := by simp only [prs, r1, r2, r3, r4, r5]
    simp only [true_implies, false_implies, implies_true, not_true_eq_false, not_false_eq_true, not_true, not_false_iff, and_true, true_and, and_false, false_and, true_or, or_true, i1n0, i0e0]
    exact g0 _ _ hE hF
  have l5 := psg_le r5
  have k5 : M5.1 5 17 12 = o ∧ M5.1 5 18 12 = fh := by rw [z5, uz _ _ _ _ (by decide), us]; exact ⟨k4, rfl⟩
  simp only [true_implies, false_implies, implies_true, not_true_eq_false, not_false_eq_true, not_true, not_false_iff, and_true, true_and, and_false, false_and, true_or, or_true, i1n0, i0e0, i1n0, k5.2]
  refine nm_m (d := 2) hN hbn (by decide) hf C5 l5 (fun th a6 M6 r6 C6 z6 => ?_) (fun M6 r6 hF => ?_)
  case refine_2 =>
    have hE : prs f n cnt = .error a5 := by simp only [prs, r1, r2, r3, r4, r5, r6]
    simp only [hv12, h12, us, m10, true_implies, false_implies, implies_true, not_true_eq_false, not_false_eq_true, not_true, not_false_iff, and_true, true_and, and_false, false_and, true_or, or_true, i1n0, i0e0]
    exact g0 _ _ hE (hF.set (by decide) (by decide))
  obtain ⟨l6, w6⟩ := pnm_le l5 r6
  have k6 : M6.1 5 17 12 = o ∧ M6.1 5 18 12 = fh := by rw [z6]; exact k5
  have D6 := C6.set (c := 19) (v := th) (by decide) (by decide)
  simp only [hv12, h12, us, (i0le w6 fh0.2).1, true_implies, false_implies, implies_true, not_true_eq_false, not_false_eq_true, not_true, not_false_iff, and_true, true_and, and_false, false_and, true_or, or_true, i1n0, i0e0]
  refine sg_m hbn hf D6 l6 (fun a7 M7 r7 C7 z7 => ?_) (fun M7 r7 hF => ?_)
  case refine_2 =>
    have hE : prs f n cnt = .error a6 := by simp only [prs, r1, r2, r3, r4, r5, r6, r7]
    simp only [true_implies, false_implies, implies_true, not_true_eq_false, not_false_eq_true, not_true, not_false_iff, and_true, true_and, and_false, false_and, true_or, or_true, i1n0, i0e0]
    exact g0 _ _ hE hF
  have l7 := psg_le r7
  have k7 : M7.1 5 17 12 = o ∧ M7.1 5 18 12 = fh ∧ M7.1 5 19 12 = th := by rw [z7, uz _ _ _ _ (by decide), uz _ _ _ _ (by decide), us]; exact ⟨k6.1, k6.2, rfl⟩
  simp only [true_implies, false_implies, implies_true, not_true_eq_false, not_false_eq_true, not_true, not_false_iff, and_true, true_and, and_false, false_and, true_or, or_true, i1n0, i0e0, i1n0]
  refine nm_m (d := 3) hN hbn (by decide) hf C7 l7 (fun fd a8 M8 r8 C8 z8 => ?_) (fun M8 r8 hF => ?_)
  case refine_2 =>
    have hE : prs f n cnt = .error a7 := by simp only [prs, r1, r2, r3, r4, r5, r6, r7, r8]
    simp only [hv12, h12, us, m10, true_implies, false_implies, implies_true, not_true_eq_false, not_false_eq_true, not_true, not_false_iff, and_true, true_and, and_false, false_and, true_or, or_true, i1n0, i0e0]
    exact g0 _ _ hE (hF.set (by decide) (by decide))
  obtain ⟨l8, w8⟩ := pnm_le l7 r8
  have fd0 := i0le w8 (by decide)
  have k8 : M8.1 5 17 12 = o ∧ M8.1 5 18 12 = fh ∧ M8.1 5 19 12 = th := by rw [z8]; exact k7
  have D8 := C8.set (c := 20) (v := fd) (by decide) (by decide)
  simp only [hv12, h12, us, fd0.1, true_implies, false_implies, implies_true, not_true_eq_false, not_false_eq_true, not_true, not_false_iff, and_true, true_and, and_false, false_and, true_or, or_true, i1n0, i0e0]
  refine sg_m hbn hf D8 l8 (fun a9 M9 r9 C9 z9 => ?_) (fun M9 r9 hF => ?_)
  case refine_2 =>
    have hE : prs f n cnt = .error a8 := by simp only [prs, r1, r2, r3, r4, r5, r6, r7, r8, r9]
    simp only [true_implies, false_implies, implies_true, not_true_eq_false, not_false_eq_true, not_true, not_false_iff, and_true, true_and, and_false, false_and, true_or, or_true, i1n0, i0e0]
    exact g0 _ _ hE hF
  have l9 := psg_le r9
  have k9 : M9.1 5 17 12 = o ∧ M9.1 5 18 12 = fh ∧ M9.1 5 19 12 = th ∧ M9.1 5 20 12 = fd := by rw [z9, uz _ _ _ _ (by decide), uz _ _ _ _ (by decide), uz _ _ _ _ (by decide), us]; exact ⟨k8.1, k8.2.1, k8.2.2, rfl⟩
  simp only [true_implies, false_implies, implies_true, not_true_eq_false, not_false_eq_true, not_true, not_false_iff, and_true, true_and, and_false, false_and, true_or, or_true, i1n0, i0e0, i1n0, k9.2.2.2]
  refine nm_m (d := 3) hN hbn (by decide) hf C9 l9 (fun td aA MA rA CA zA => ?_) (fun MA rA hF => ?_)
  case refine_2 =>
    have hE : prs f n cnt = .error a9 := by simp only [prs, r1, r2, r3, r4, r5, r6, r7, r8, r9, rA]
    simp only [hv12, h12, us, m11, true_implies, false_implies, implies_true, not_true_eq_false, not_false_eq_true, not_true, not_false_iff, and_true, true_and, and_false, false_and, true_or, or_true, i1n0, i0e0]
    exact g0 _ _ hE (hF.set (by decide) (by decide))
  obtain ⟨lA, wA⟩ := pnm_le l9 rA
  have kA : MA.1 5 17 12 = o ∧ MA.1 5 18 12 = fh ∧ MA.1 5 19 12 = th ∧ MA.1 5 20 12 = fd := by rw [zA]; exact k9
  have DA := (CA.set (c := 21) (v := td) (by decide) (by decide)).set (c := 22) (v := 0) (by decide) (by decide)
  simp only [hv12, h12, us, (i0le wA fd0.2).2, true_implies, false_implies, implies_true, not_true_eq_false, not_false_eq_true, not_true, not_false_iff, and_true, true_and, and_false, false_and, true_or, or_true, i1n0, i0e0, DA.2.1, DA.2.2, neq (show b + aA < 2 ^ 31 by omega) (show b + n < 2 ^ 31 by omega)]
  have kB : (setI (setI MA 5 21 12 td) 5 22 12 0).1 5 17 12 = o ∧ (setI (setI MA 5 21 12 td) 5 22 12 0).1 5 18 12 = fh ∧ (setI (setI MA 5 21 12 td) 5 22 12 0).1 5 19 12 = th ∧ (setI (setI MA 5 21 12 td) 5 22 12 0).1 5 20 12 = fd ∧ (setI (setI MA 5 21 12 td) 5 22 12 0).1 5 21 12 = td ∧ (setI (setI MA 5 21 12 td) 5 22 12 0).1 5 22 12 = 0 := ⟨kA.1, kA.2.1, kA.2.2.1, kA.2.2.2, rfl, rfl⟩
  refine ⟨fun hne => ?_, fun he => ?_⟩
  · have hlt : aA < n := by omega
    refine sg_m hbn hf DA lA (fun aC MC rC CC zC => ?_) (fun MC rC hF => ?_)
    case refine_2 =>
      have hE : prs f n cnt = .error aA := by simp only [prs, r1, r2, r3, r4, r5, r6, r7, r8, r9, rA, hlt, if_true, rC]
      simp only [true_implies, false_implies, implies_true, not_true_eq_false, not_false_eq_true, not_true, not_false_iff, and_true, true_and, and_false, false_and, true_or, or_true, i1n0, i0e0]
      exact g0 _ _ hE hF
    have lC := psg_le rC
    have kC : MC.1 5 17 12 = o ∧ MC.1 5 18 12 = fh ∧ MC.1 5 19 12 = th ∧ MC.1 5 20 12 = fd ∧ MC.1 5 21 12 = td ∧ MC.1 5 22 12 = 0 := by rw [zC]; exact kB
    simp only [true_implies, false_implies, implies_true, not_true_eq_false, not_false_eq_true, not_true, not_false_iff, and_true, true_and, and_false, false_and, true_or, or_true, i1n0, i0e0, i1n0]
    refine lo_m hc7 hbn hf ec n aC N MC (by omega) (by omega) CC lC (fun k M' q1 q2 q3 q4 => ?_) (fun q M' q1 q2 => ?_)
    · rw [kC.2.2.2.2.2] at q1
      have hE : prs f n cnt = .ok (o, fh, th, fd, td, k) := by simp only [prs, r1, r2, r3, r4, r5, r6, r7, r8, r9, rA, hlt, if_true, rC, q1]
      refine g1 _ _ _ _ _ _ _ hE w2 q2 ?_ ?_ ?_ ?_ ?_ q3
      · rw [q4 17 (by decide)]; exact kC.1
      · rw [q4 18 (by decide)]; exact kC.2.1
      · rw [q4 19 (by decide)]; exact kC.2.2.1
      · rw [q4 20 (by decide)]; exact kC.2.2.2.1
      · rw [q4 21 (by decide)]; exact kC.2.2.2.2.1
    · rw [kC.2.2.2.2.2] at q1
      have hE : prs f n cnt = .error q := by simp only [prs, r1, r2, r3, r4, r5, r6, r7, r8, r9, rA, hlt, if_true, rC, q1]
      exact g0 _ _ hE q2
  · have hlt : ¬ aA < n := by have := Classical.not_not.mp he; omega
    have hE : prs f n cnt = .ok (o, fh, th, fd, td, 0) := by simp only [prs, r1, r2, r3, r4, r5, r6, r7, r8, r9, rA, hlt, if_false]
    exact g1 _ _ _ _ _ _ _ hE w2 DA.1 kB.1 kB.2.1 kB.2.2.1 kB.2.2.2.1 kB.2.2.2.2.1 kB.2.2.2.2.2
