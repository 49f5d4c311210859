/-- at the camp x1 on the day x2 -/
def pa (s : Sx) (x1 x2 : Int32) (p : Nat) : Prop := s.1 1 p 2 = x1 ∧ wi x2 (s.1 1 p 3) (s.1 1 p 4)
def pam (s : Sx) (x1 x2 : Int32) (p : Nat) : Prop := s.1 5 13 p = x1 ∧ wi x2 (s.1 5 14 p) (s.1 5 15 p)
theorem ip_pa {s : Sx} (h : IP s) (x1 x2 : Int32) {m : Nat} (hm : m ≤ s.2.2 0) : ctc (pam s x1 x2) m = ctc (pa s x1 x2) m := ctc_cong (fun j h1 => by
  obtain ⟨a1, a2, a3, a4, a5⟩ := (h.2.2.2.2.1 j (by omega)).1
  unfold pam pa
  rw [a3, a4, a5])
theorem menAt_c {N : Nat} {s : Sx} {post : Int32 → Sx → Prop} {x1 x2 : Int32} {np : Nat} (hn0 : s.2.2 0 = np) (hn1 : s.2.2 1 = np) (hnp : np ≤ 30) (hp : post (nI (ctc (pa s x1 x2) np)) s) : ∀ (m i f : Nat), i + m = 30 → m < f → w_X11_menAt_16 N post f s x1 x2 (nI (ctc (pa s x1 x2) (min i np))) 30 (nI i) := by
  intro m
  induction m with
  | zero =>
    intro i f h1 h2
    obtain ⟨f, rfl⟩ : ∃ g, f = g + 1 := ⟨f - 1, by omega⟩
    have hi : i = 30 := by omega
    subst hi
    simp only [w_X11_menAt_16, lit30, nle (show 30 < 2 ^ 31 by decide) (show 30 < 2 ^ 31 by decide), Nat.le_refl, true_implies, not_true, false_implies, and_true]
    rw [show min 30 np = np by omega]
    exact hp
  | succ m ih =>
    intro i f h1 h2
    obtain ⟨f, rfl⟩ : ∃ g, f = g + 1 := ⟨f - 1, by omega⟩
    have hle : (30 ≤ i) = False := by simp; omega
    have hv : vp_in (nI i) 30 := vp_in_nI (by omega) (by decide)
    have hih := ih (i + 1) f (by omega) (by omega)
    simp only [w_X11_menAt_16, lit30, nle (show 30 < 2 ^ 31 by decide) (show i < 2 ^ 31 by omega), hle, false_implies, not_false_iff, true_implies, true_and, nI_clamp (show i < 2 ^ 31 by omega), hn0, hn1, hv, forall_eq, nI_1]
    simp only [lit30] at hih
    by_cases hi : i < np
    · rw [show min i np = i by omega]
      rw [show min (i + 1) np = i + 1 by omega] at hih
      simp only [hi, not_true, false_implies, true_implies, true_and, holds_eq (show i < s.2.2 0 by omega)]
      by_cases hc : pa s x1 x2 i
      · rw [ctc_y hc] at hih
        simp [hc.1, hc.2]
        exact hih
      · rw [ctc_n hc] at hih
        by_cases h3 : s.1 1 i 2 = x1
        · have h4 : ¬ wi x2 (s.1 1 i 3) (s.1 1 i 4) := fun h => hc ⟨h3, h⟩
          simp [h3, h4, hih]
        · simp [h3, hih]
    · rw [show min i np = np by omega]
      rw [show min (i + 1) np = np by omega] at hih
      simp [hi, hih]
theorem menAt_m {N : Nat} {s : Sx} {post : Int32 → Sx → Prop} {x1 x2 : Int32} {np : Nat} (hn0 : s.1 6 0 10 = nI np) (hnp : np ≤ 30) (hp : post (nI (ctc (pam s x1 x2) np)) s) : ∀ (m i f : Nat), i + m = np → m < f → w_X12_menAt_5 N post f s x1 x2 (nI (ctc (pam s x1 x2) i)) (nI i) := by
  intro m
  induction m with
  | zero =>
    intro i f h1 h2
    obtain ⟨f, rfl⟩ : ∃ g, f = g + 1 := ⟨f - 1, by omega⟩
    have hi : i = np := by omega
    subst hi
    simp only [w_X12_menAt_5, hn0, nle (show i < 2 ^ 31 by omega) (show i < 2 ^ 31 by omega), Nat.le_refl, true_implies, not_true, false_implies, and_true]
    exact hp
  | succ m ih =>
    intro i f h1 h2
    obtain ⟨f, rfl⟩ : ∃ g, f = g + 1 := ⟨f - 1, by omega⟩
    have hle : (np ≤ i) = False := by simp; omega
    have hv : vp_in (nI i) 30 := vp_in_nI (by omega) (by decide)
    have hih := ih (i + 1) f (by omega) (by omega)
    simp only [w_X12_menAt_5, w_X12_menAt_51, hn0, nle (show np < 2 ^ 31 by omega) (show i < 2 ^ 31 by omega), hle, false_implies, not_false_iff, true_implies, true_and, nI_clamp (show i < 2 ^ 31 by omega), hv, forall_eq, nI_1, wm_eq, Int32.add_zero]
    by_cases hc : pam s x1 x2 i
    · rw [ctc_y hc] at hih
      simp [hc.1, hc.2]
      exact hih
    · rw [ctc_n hc] at hih
      by_cases h3 : s.1 5 13 i = x1
      · have h4 : ¬ wi x2 (s.1 5 14 i) (s.1 5 15 i) := fun h => hc ⟨h3, h⟩
        simp [h3, h4, hih]
      · simp [h3, hih]
/-- how many men are at a camp on a day -/
theorem menAt_c0 {N : Nat} {s : Sx} {post : Int32 → Sx → Prop} {x1 x2 : Int32} (hN : 20000 ≤ N) (h : IP s) (hp : post (nI (ctc (pa s x1 x2) (s.2.2 0))) s) : w_X11_menAt N x1 x2 s post := by
  have := menAt_c (N := N) (x1 := x1) (x2 := x2) (np := s.2.2 0) rfl h.2.2.1 h.2.2.2.1 hp 30 0 N (by omega) (by omega)
  rw [show min 0 (s.2.2 0) = 0 by omega] at this
  exact this
theorem menAt_m0 {N : Nat} {s : Sx} {post : Int32 → Sx → Prop} {x1 x2 : Int32} (hN : 20000 ≤ N) (h : IP s) (hp : post (nI (ctc (pa s x1 x2) (s.2.2 0))) s) : w_X12_menAt N x1 x2 s post := by
  rw [← ip_pa h x1 x2 (Nat.le_refl _)] at hp
  exact menAt_m (N := N) (x1 := x1) (x2 := x2) (np := s.2.2 0) (h.1 ▸ h.2.1) h.2.2.2.1 hp (s.2.2 0) 0 N (by omega) (by have := h.2.2.2.1; omega)
theorem cs_beds {N k : Nat} {s : Sx} (hN : 20000 ≤ N) (hk : k ≤ 600) (hI : Inv k s) (x1 : Int32) (x2 : Int32) (P : Int32 → Int32 → Sx → Prop) (hP : ∀ r s', Inv (k + 1) s' → P r r s') : w_X11_beds N x1 x2 s (fun r s1 => w_X12_beds N x1 x2 s1 (fun r2 s2 => P r r2 s2)) := by
  have hI2 := hI.up
  obtain ⟨hIC, hIM, hIP, hIZ, hIR, hIY, hIW, hIT, hIF, hIL, hIS⟩ := id hI
  obtain ⟨m1, m2, m3⟩ := id hIC
  simp only [w_X11_beds, w_X0_has, w_X11_isDay, w_X12_beds, w_X12_isDay, wi_eq, wm_eq, forall_eq, rdI, rdU, rdI2, rdJ, rdJ1, rdN, rdN1, rdD, rdD2, rdD3, Nat.reduceEqDiff, and_self, and_true, true_and, and_false, false_and, if_true, if_false, reduceIte, Nat.zero_ne_one, Nat.one_ne_zero, i1n0, i0e0, not_true, not_false_iff, false_implies, true_implies, implies_true, mcamp_eq, m2, ← m1]
  by_cases h1 : wi x1 0 (s.1 0 1 4 - 1)
  · by_cases h2 : wi x2 0 399
    · simp only [h1, h2, true_implies, not_true, false_implies, and_true, true_and, i1n0, not_false_iff, true_or, or_true]
      refine menAt_c0 hN hIP ?_
      simp only [mcamp_eq, m2, ← m1, h1, h2, true_implies, not_true, false_implies, and_true, true_and, i1n0, not_false_iff, true_or, or_true]
      refine menAt_m0 hN hIP ?_
      exact hP _ _ hI2
    · simp [h1, h2, hP _ _ hI2, mcamp_eq, m2, ← m1]
  · simp [h1, hP _ _ hI2, mcamp_eq, m2, ← m1]
/-- too many at the camp x1 on the day d -/
def bad (s : Sx) (x1 : Int32) (d : Nat) : Prop := ¬ nI (ctc (pa s x1 (nI d)) (s.2.2 0)) ≤ s.1 0 4 x1.toNatClampNeg
/-- the first day so far, over the posts below i -/
def ov (s : Sx) (x1 v : Int32) (i : Nat) : Prop := (v = (-9) ∧ ∀ p d, p < i → s.1 1 p 2 = x1 → s.1 1 p 3 = nI d → d ≤ 399 → ¬ bad s x1 d) ∨ ∃ d, d ≤ 399 ∧ v = nI d ∧ bad s x1 d ∧ (∃ p, p < i ∧ s.1 1 p 2 = x1 ∧ s.1 1 p 3 = nI d) ∧ ∀ p e, p < i → s.1 1 p 2 = x1 → s.1 1 p 3 = nI e → e ≤ 399 → bad s x1 e → d ≤ e
theorem nI_inj {a b : Nat} (h : nI a = nI b) (ha : a < 2 ^ 31) (hb : b < 2 ^ 31) : a = b := (nI_eq ha hb).mp h
theorem n9 (d : Nat) (h : d < 2 ^ 31) : ¬ nI d = (-9) := fun e => by
  have := congrArg Int32.toInt e
  rw [nI_toInt h, show (-9 : Int32).toInt = -9 from by decide] at this
  omega
theorem over_c {N : Nat} {s : Sx} {post : Int32 → Sx → Prop} {x1 : Int32} {np : Nat} (hN : 20000 ≤ N) (hI : IP s) (hx : vp_in x1 7) (hn0 : s.2.2 0 = np) (hp : ∀ v, ov s x1 v np → post v s) : ∀ (m i f : Nat) (v : Int32), i + m = 30 → m < f → ov s x1 v (min i np) → w_X11_over_28 N post f s x1 v 30 (nI i) := by
  obtain ⟨e1, e2, e3, e4, e5, e6⟩ := id hI
  have hn1 : s.2.2 1 = np := by omega
  have hnp : np ≤ 30 := by omega
  intro m
  induction m with
  | zero =>
    intro i f v h1 h2 hv
    obtain ⟨f, rfl⟩ : ∃ g, f = g + 1 := ⟨f - 1, by omega⟩
    have hi : i = 30 := by omega
    subst hi
    rw [show min 30 np = np by omega] at hv
    simp only [w_X11_over_28, lit30, nle (show 30 < 2 ^ 31 by decide) (show 30 < 2 ^ 31 by decide), Nat.le_refl, true_implies, not_true, false_implies, and_true]
    exact hp v hv
  | succ m ih =>
    intro i f v h1 h2 hv
    obtain ⟨f, rfl⟩ : ∃ g, f = g + 1 := ⟨f - 1, by omega⟩
    have hle : (30 ≤ i) = False := by simp; omega
    have hvi : vp_in (nI i) 30 := vp_in_nI (by omega) (by decide)
    simp only [w_X11_over_28, lit30, nle (show 30 < 2 ^ 31 by decide) (show i < 2 ^ 31 by omega), hle, false_implies, not_false_iff, true_implies, true_and, nI_clamp (show i < 2 ^ 31 by omega), hn0, hn1, hvi, forall_eq, nI_1]
    simp only [lit30] at ih
    by_cases hi : i < np
    · rw [show min i np = i by omega] at hv
      have next : ∀ v, ov s x1 v (i + 1) → w_X11_over_28 N post f s x1 v (nI 30) (nI (i + 1)) := fun v h => ih (i + 1) f v (by omega) (by omega) (by rw [show min (i + 1) np = i + 1 by omega]; exact h)
      obtain ⟨-, p1, p2, p3, p4⟩ := e5 i (by omega)
      obtain ⟨d, hd, ed⟩ := wi_n (n := 399) (by decide) p2
      simp only [hi, not_true, false_implies, true_implies, true_and]
      by_cases hc : s.1 1 i 2 = x1
      · have go : (v = (-9) ∨ ∃ e, v = nI e ∧ e ≤ 399 ∧ d < e) → w_X11_over_70 N post (w_X11_over_28 N post f) s x1 v (nI 30) (nI i) i := by
          intro hlt
          simp only [w_X11_over_70, hn0, hi, true_and]
          refine menAt_c0 hN hI ?_
          simp only [hx, true_and, forall_eq, nI_1, hn0, hi, ed]
          by_cases hb : bad s x1 d
          · have hb' : ¬ nI (ctc (pa s x1 (nI d)) np) ≤ s.1 0 4 x1.toNatClampNeg := by rw [← hn0]; exact hb
            simp only [hb', false_implies, true_and, not_false_iff, true_implies]
            refine next _ (Or.inr ⟨d, hd, rfl, hb, ⟨i, by omega, hc, ed⟩, fun p e hpi hpc hpe he hbe => ?_⟩)
            rcases Nat.lt_or_ge p i with q | q
            · rcases hv with ⟨v9, hno⟩ | ⟨d2, hd2, v2, hb2, -, hmin⟩
              · exact absurd hbe (hno p e q hpc hpe he)
              · have h3 := hmin p e q hpc hpe he hbe
                rcases hlt with h9 | ⟨e9, he9, hl9, hlt9⟩
                · rw [h9] at v2; exact absurd v2.symm (n9 _ (by omega))
                · have := nI_inj (v2.symm.trans he9) (by omega) (by omega)
                  omega
            · have hpi2 : p = i := by omega
              subst hpi2
              rw [ed] at hpe
              have := nI_inj hpe (by omega) (by omega)
              omega
          · have hb' : nI (ctc (pa s x1 (nI d)) np) ≤ s.1 0 4 x1.toNatClampNeg := by rw [← hn0]; exact Classical.not_not.mp hb
            simp only [hb', not_true, false_implies, true_implies, and_true]
            refine next v ?_
            rcases hv with ⟨v9, hno⟩ | ⟨d2, hd2, v2, hb2, ⟨p2, hp2, hp3⟩, hmin⟩
            · refine Or.inl ⟨v9, fun p e hpi hpc hpe he => ?_⟩
              rcases Nat.lt_or_ge p i with q | q
              · exact hno p e q hpc hpe he
              · have hpi2 : p = i := by omega
                subst hpi2
                rw [ed] at hpe
                rw [← nI_inj hpe (by omega) (by omega)]
                exact hb
            · refine Or.inr ⟨d2, hd2, v2, hb2, ⟨p2, by omega, hp3⟩, fun p e hpi hpc hpe he hbe => ?_⟩
              rcases Nat.lt_or_ge p i with q | q
              · exact hmin p e q hpc hpe he hbe
              · have hpi2 : p = i := by omega
                subst hpi2
                rw [ed] at hpe
                rw [← nI_inj hpe (by omega) (by omega)] at hbe
                exact absurd hbe hb
        simp only [hc, not_true, false_implies, true_implies, true_and, ed]
        rcases hv with ⟨v9, hno⟩ | ⟨d2, hd2, v2, hb2, ⟨p2, hp2, hp3⟩, hmin⟩
        · simp only [v9, true_implies, false_implies, implies_true, not_true_eq_false, not_false_eq_true, not_true, not_false_iff, and_true, true_and, and_false, false_and, true_or, or_true, i1n0, i0e0]
          rw [← v9]
          exact go (Or.inl v9)
        · have h9 : ¬ v = (-9) := by rw [v2]; exact n9 _ (by omega)
          simp only [h9, not_false_iff, false_implies, true_implies, true_and]
          rw [v2, nle (show d2 < 2 ^ 31 by omega) (show d < 2 ^ 31 by omega), ← v2]
          refine ⟨fun hle2 => next v (Or.inr ⟨d2, hd2, v2, hb2, ⟨p2, by omega, hp3⟩, fun p e hpi hpc hpe he hbe => ?_⟩), fun hlt2 => go (Or.inr ⟨d2, v2, hd2, by omega⟩)⟩
          rcases Nat.lt_or_ge p i with q | q
          · exact hmin p e q hpc hpe he hbe
          · have hpi2 : p = i := by omega
            subst hpi2
            rw [ed] at hpe
            have := nI_inj hpe (by omega) (by omega)
            omega
      · simp only [hc, true_implies, false_implies, implies_true, not_true_eq_false, not_false_eq_true, not_true, not_false_iff, and_true, true_and, and_false, false_and, true_or, or_true, i1n0, i0e0]
        refine next v ?_
        rcases hv with ⟨v9, hno⟩ | ⟨d2, hd2, v2, hb2, ⟨p2, hp2, hp3⟩, hmin⟩
        · refine Or.inl ⟨v9, fun p e hpi hpc hpe he => ?_⟩
          rcases Nat.lt_or_ge p i with q | q
          · exact hno p e q hpc hpe he
          · have hpi2 : p = i := by omega
            subst hpi2
            exact absurd hpc hc
        · refine Or.inr ⟨d2, hd2, v2, hb2, ⟨p2, by omega, hp3⟩, fun p e hpi hpc hpe he hbe => ?_⟩
          rcases Nat.lt_or_ge p i with q | q
          · exact hmin p e q hpc hpe he hbe
          · have hpi2 : p = i := by omega
            subst hpi2
            exact absurd hpc hc
    · have := ih (i + 1) f v (by omega) (by omega) (by rw [show min (i + 1) np = np by omega]; rw [show min i np = np by omega] at hv; exact hv)
      simp [hi, this]
theorem bad_from {s : Sx} {x1 : Int32} (hI : IP s) (hC : IC s) : ∀ d : Nat, d ≤ 399 → bad s x1 d → ∃ p e, p < s.2.2 0 ∧ s.1 1 p 2 = x1 ∧ s.1 1 p 3 = nI e ∧ e ≤ d ∧ bad s x1 e := by
  obtain ⟨e1, e2, e3, e4, e5, e6⟩ := id hI
  intro d
  induction d with
  | zero =>
    intro _ hb
    have hpos : 0 < ctc (pa s x1 (nI 0)) (s.2.2 0) := by
      rcases Nat.eq_zero_or_pos (ctc (pa s x1 (nI 0)) (s.2.2 0)) with h | h
      · exfalso
        apply hb
        rw [h, nI_0]
        exact (hC.2.2.2.2.2.2.2.2.1 _).1
      · exact h
    obtain ⟨p, hp, hc1, hc2⟩ := ctc_pos hpos
    obtain ⟨-, p1, p2, p3, p4⟩ := e5 p hp
    obtain ⟨d, hd, ed⟩ := wi_n (n := 399) (by decide) p2
    have h3 := hc2.1
    rw [ed, nle (by omega) (by decide)] at h3
    have hd0 : d = 0 := by omega
    subst hd0
    exact ⟨p, 0, hp, hc1, ed, Nat.le_refl _, hb⟩
  | succ d ih =>
    intro hd hb
    rcases Classical.em (∃ p, p < s.2.2 0 ∧ s.1 1 p 2 = x1 ∧ s.1 1 p 3 = nI (d + 1)) with ⟨p, h1, h2, h3⟩ | hno
    · exact ⟨p, d + 1, h1, h2, h3, Nat.le_refl _, hb⟩
    · have hle : ctc (pa s x1 (nI (d + 1))) (s.2.2 0) ≤ ctc (pa s x1 (nI d)) (s.2.2 0) := ctc_mono (fun p hp hc => by
        obtain ⟨-, p1, p2, p3, p4⟩ := e5 p hp
        obtain ⟨a, ha, ea⟩ := wi_n (n := 399) (by decide) p2
        obtain ⟨b, hb2, eb⟩ := wi_n (n := 399) (by decide) p3
        obtain ⟨c1, c2, c3⟩ := hc
        rw [ea, nle (by omega) (by omega)] at c2
        rw [eb, nle (by omega) (by omega)] at c3
        have hne : a ≠ d + 1 := fun e => hno ⟨p, hp, c1, by rw [ea, e]⟩
        refine ⟨c1, ?_, ?_⟩
        · rw [ea, nle (by omega) (by omega)]; omega
        · rw [eb, nle (by omega) (by omega)]; omega)
      have hl2 := ctc_le (pa s x1 (nI d)) (s.2.2 0)
      obtain ⟨p, e, h1, h2, h3, h4, h5⟩ := ih (by omega) (fun h => hb (by
        rw [le_, nI_toInt (by omega)] at h ⊢
        omega))
      exact ⟨p, e, h1, h2, h3, by omega, h5⟩
theorem lit399 : (399 : Int32) = nI 399 := rfl
theorem over_m {N : Nat} {s : Sx} {post : Int32 → Sx → Prop} {x1 v : Int32} (hN : 20000 ≤ N) (hI : IP s) (hC : IC s) (hx : vp_in x1 7) (hv : ov s x1 v (s.2.2 0)) (hp : post v s) : ∀ (m i f : Nat), i + m = 400 → m < f → (∀ d, v = nI d → d ≤ 399 → i ≤ d) → w_X12_over_12 N post f s x1 (nI i) := by
  intro m
  induction m with
  | zero =>
    intro i f h1 h2 hd
    obtain ⟨f, rfl⟩ : ∃ g, f = g + 1 := ⟨f - 1, by omega⟩
    have hi : i = 400 := by omega
    subst hi
    have h9 : v = (-9) := by
      rcases hv with ⟨h, -⟩ | ⟨d, hd2, h, -⟩
      · exact h
      · have := hd d h hd2; omega
    simp only [w_X12_over_12, lit399, nlt (show 399 < 2 ^ 31 by decide) (show 400 < 2 ^ 31 by decide), show (399 < 400) = True by simp, true_implies, false_implies, implies_true, not_true_eq_false, not_false_eq_true, not_true, not_false_iff, and_true, true_and, and_false, false_and, true_or, or_true, i1n0, i0e0]
    rw [← h9]
    exact hp
  | succ m ih =>
    intro i f h1 h2 hd
    obtain ⟨f, rfl⟩ : ∃ g, f = g + 1 := ⟨f - 1, by omega⟩
    have hle : (399 < i) = False := by simp; omega
    simp only [w_X12_over_12, lit399, nlt (show 399 < 2 ^ 31 by decide) (show i < 2 ^ 31 by omega), hle, true_implies, false_implies, implies_true, not_true_eq_false, not_false_eq_true, not_true, not_false_iff, and_true, true_and, and_false, false_and, true_or, or_true, i1n0, i0e0]
    refine menAt_m0 hN hI ?_
    simp only [hx, true_and, forall_eq, nI_1, ← hC.2.2.2.2.1]
    by_cases hb : bad s x1 i
    · have hb' : ¬ nI (ctc (pa s x1 (nI i)) (s.2.2 0)) ≤ s.1 0 4 x1.toNatClampNeg := hb
      simp only [hb', true_implies, false_implies, implies_true, not_true_eq_false, not_false_eq_true, not_true, not_false_iff, and_true, true_and, and_false, false_and, true_or, or_true, i1n0, i0e0]
      obtain ⟨p, e, b1, b2, b3, b4, b5⟩ := bad_from hI hC i (by omega) hb
      rcases hv with ⟨h9, hno⟩ | ⟨d, hd2, h, h3, h4, h5⟩
      · exact absurd b5 (hno p e b1 b2 b3 (by omega))
      · have h6 := h5 p e b1 b2 b3 (by omega) b5
        have h7 := hd d h hd2
        have h8 : i = d := by omega
        rw [h8, ← h]
        exact hp
    · have hb' : nI (ctc (pa s x1 (nI i)) (s.2.2 0)) ≤ s.1 0 4 x1.toNatClampNeg := Classical.not_not.mp hb
      simp only [hb', true_implies, false_implies, implies_true, not_true_eq_false, not_false_eq_true, not_true, not_false_iff, and_true, true_and, and_false, false_and, true_or, or_true, i1n0, i0e0]
      refine ih (i + 1) f (by omega) (by omega) (fun d h hd2 => ?_)
      have h7 := hd d h hd2
      rcases Nat.lt_or_ge i d with q | q
      · exact q
      · exfalso
        have h8 : i = d := by omega
        rcases hv with ⟨h9, hno⟩ | ⟨d2, hd3, h', h3, h4, h5⟩
        · rw [h] at h9; exact n9 _ (by omega) h9
        · have := nI_inj (h.symm.trans h') (by omega) (by omega)
          rw [h8, this] at hb
          exact hb h3
theorem cs_over {N k : Nat} {s : Sx} (hN : 20000 ≤ N) (hk : k ≤ 600) (hI : Inv k s) (x1 : Int32) (P : Int32 → Int32 → Sx → Prop) (hP : ∀ r s', Inv (k + 1) s' → P r r s') : w_X11_over N x1 s (fun r s1 => w_X12_over N x1 s1 (fun r2 s2 => P r r2 s2)) := by
  have hI2 := hI.up
  obtain ⟨hIC, hIM, hIP, hIZ, hIR, hIY, hIW, hIT, hIF, hIL, hIS⟩ := id hI
  obtain ⟨m1, m2, m3⟩ := id hIC
  simp only [w_X11_over, w_X0_has, w_X12_over, wi_eq, wm_eq, forall_eq, rdI, rdU, rdI2, rdJ, rdJ1, rdN, rdN1, rdD, rdD2, rdD3, Nat.reduceEqDiff, and_self, and_true, true_and, and_false, false_and, if_true, if_false, reduceIte, Nat.zero_ne_one, Nat.one_ne_zero, i1n0, i0e0, not_true, not_false_iff, false_implies, true_implies, implies_true, mcamp_eq, m2, ← m1]
  by_cases h1 : wi x1 0 (s.1 0 1 4 - 1)
  · obtain ⟨j, rfl, hj1, hj2, hj3, hj4⟩ := inC (M := 7) (by decide) m2 h1
    simp only [h1, true_implies, false_implies, implies_true, not_true_eq_false, not_false_eq_true, not_true, not_false_iff, and_true, true_and, and_false, false_and, true_or, or_true, i1n0, i0e0]
    refine over_c (np := s.2.2 0) hN hIP hj3 rfl (fun v hv => ?_) 30 0 N (-9) (by omega) (by omega) (Or.inl ⟨rfl, fun p d hp => by omega⟩)
    simp only [mcamp_eq, m2, ← m1, h1, true_implies, false_implies, implies_true, not_true_eq_false, not_false_eq_true, not_true, not_false_iff, and_true, true_and, and_false, false_and, true_or, or_true, i1n0, i0e0]
    exact over_m hN hIP hIC hj3 hv (hP _ _ hI2) 400 0 N (by omega) (by omega) (fun d _ _ => Nat.zero_le d)
  · simp [h1, hP _ _ hI2, mcamp_eq, m2, ← m1]
