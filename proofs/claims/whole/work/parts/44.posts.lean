/-! posts -/
noncomputable def pd (c : Prop) : Decidable c := Classical.propDecidable c
/-- how many j < n have c -/
noncomputable def ctc (c : Nat → Prop) : Nat → Nat
  | 0 => 0
  | n + 1 => ctc c n + @ite _ (c n) (pd _) 1 0
theorem ctc_y {c : Nat → Prop} {n : Nat} (h : c n) : ctc c (n + 1) = ctc c n + 1 := by
  show ctc c n + _ = _
  rw [if_pos h]
theorem ctc_n {c : Nat → Prop} {n : Nat} (h : ¬ c n) : ctc c (n + 1) = ctc c n := by
  show ctc c n + _ = _
  rw [if_neg h, Nat.add_zero]
theorem ctc_le (c : Nat → Prop) : ∀ n, ctc c n ≤ n
  | 0 => Nat.le_refl _
  | n + 1 => by
    have := ctc_le c n
    rcases Classical.em (c n) with h | h
    · rw [ctc_y h]; omega
    · rw [ctc_n h]; omega
theorem ctc_cong {c d : Nat → Prop} : ∀ {n : Nat}, (∀ j, j < n → (c j ↔ d j)) → ctc c n = ctc d n
  | 0, _ => rfl
  | n + 1, h => by
    have ih := ctc_cong (n := n) (fun j hj => h j (by omega))
    rcases Classical.em (c n) with q | q
    · rw [ctc_y q, ctc_y ((h n (by omega)).mp q), ih]
    · rw [ctc_n q, ctc_n (fun r => q ((h n (by omega)).mpr r)), ih]
theorem ctc_mono {c d : Nat → Prop} : ∀ {n : Nat}, (∀ j, j < n → c j → d j) → ctc c n ≤ ctc d n
  | 0, _ => Nat.le_refl _
  | n + 1, h => by
    have ih := ctc_mono (n := n) (fun j hj => h j (by omega))
    rcases Classical.em (c n) with q | q
    · rw [ctc_y q, ctc_y (h n (by omega) q)]; omega
    · rw [ctc_n q]
      rcases Classical.em (d n) with r | r
      · rw [ctc_y r]; omega
      · rw [ctc_n r]; exact ih
theorem ctc_pos {c : Nat → Prop} : ∀ {n : Nat}, 0 < ctc c n → ∃ j, j < n ∧ c j
  | 0, h => absurd h (Nat.lt_irrefl 0)
  | n + 1, h => by
    rcases Classical.em (c n) with q | q
    · exact ⟨n, by omega, q⟩
    · rw [ctc_n q] at h
      obtain ⟨j, hj, hc⟩ := ctc_pos h
      exact ⟨j, by omega, hc⟩
/-- the first j of i, i + 1 .. (m of them) with c -/
noncomputable def frs (c : Nat → Prop) : Nat → Nat → Option Nat
  | 0, _ => none
  | m + 1, i => @ite _ (c i) (pd _) (some i) (frs c m (i + 1))
theorem frs_y {c : Nat → Prop} {m i : Nat} (h : c i) : frs c (m + 1) i = some i := by unfold frs; rw [if_pos h]
theorem frs_n {c : Nat → Prop} {m i : Nat} (h : ¬ c i) : frs c (m + 1) i = frs c m (i + 1) := by
  conv => lhs; unfold frs
  rw [if_neg h]
theorem frs_cong {c d : Nat → Prop} : ∀ {m i : Nat}, (∀ j, i ≤ j → j < i + m → (c j ↔ d j)) → frs c m i = frs d m i
  | 0, _, _ => rfl
  | m + 1, i, h => by
    have ih := frs_cong (m := m) (i := i + 1) (fun j h1 h2 => h j (by omega) (by omega))
    rcases Classical.em (c i) with q | q
    · rw [frs_y q, frs_y ((h i (Nat.le_refl _) (by omega)).mp q)]
    · rw [frs_n q, frs_n (fun r => q ((h i (Nat.le_refl _) (by omega)).mpr r)), ih]
def vo (d : Int32) (o : Option Nat) : Int32 := match o with
  | none => d
  | some j => nI j
/-- comparisons of small numbers -/
theorem nle {a b : Nat} (ha : a < 2 ^ 31) (hb : b < 2 ^ 31) : (nI a ≤ nI b) = (a ≤ b) := propext (nI_leI ha hb)
theorem nlt {a b : Nat} (ha : a < 2 ^ 31) (hb : b < 2 ^ 31) : (nI a < nI b) = (a < b) := propext (nI_ltI ha hb)
theorem neq {a b : Nat} (ha : a < 2 ^ 31) (hb : b < 2 ^ 31) : (nI a = nI b) = (a = b) := propext (nI_eq ha hb)
theorem lit30 : (30 : Int32) = nI 30 := rfl
theorem wi_nI {n M : Nat} (h : n ≤ M) (hM : M < 2 ^ 31) : wi (nI n) 0 (nI M) := ⟨nI_pos' (by omega), nI_le h hM⟩
/-- posts that a man has -/
def ph (s : Sx) (x1 x2 : Int32) (p : Nat) : Prop := s.1 1 p 1 = x1 ∧ wi x2 (s.1 1 p 3) (s.1 1 p 4)
theorem holds_eq {N p : Nat} {x : Int32} {s : Sx} {post : Int32 → Sx → Prop} (h : p < s.2.2 0) : w_X6_holdsOn N p x s post = ((wi x (s.1 1 p 3) (s.1 1 p 4) → post 1 s) ∧ (¬ wi x (s.1 1 p 3) (s.1 1 p 4) → post 0 s)) := by
  simp only [w_X6_holdsOn, wi_eq, h, true_and]
  simp
theorem day_c {N : Nat} {s : Sx} {post : Int32 → Sx → Prop} {x1 x2 : Int32} {np : Nat} (hn0 : s.2.2 0 = np) (hn1 : s.2.2 1 = np) (hnp : np ≤ 30) : ∀ (m i f : Nat), i + m = 30 → m < f → post (vo (-9) (frs (ph s x1 x2) (np - i) i)) s → w_X11_day_22 N post f s x1 x2 (nI i) := by
  intro m
  induction m with
  | zero =>
    intro i f h1 h2 hp
    obtain ⟨f, rfl⟩ : ∃ g, f = g + 1 := ⟨f - 1, by omega⟩
    have hi : i = 30 := by omega
    subst hi
    rw [show np - 30 = 0 by omega] at hp
    simp only [w_X11_day_22, lit30, nle (show 30 < 2 ^ 31 by decide) (show 30 < 2 ^ 31 by decide), Nat.le_refl, true_implies, not_true, false_implies, and_true]
    exact hp
  | succ m ih =>
    intro i f h1 h2 hp
    obtain ⟨f, rfl⟩ : ∃ g, f = g + 1 := ⟨f - 1, by omega⟩
    have hle : (30 ≤ i) = False := by simp; omega
    have hv : vp_in (nI i) 30 := vp_in_nI (by omega) (by decide)
    simp only [w_X11_day_22, lit30, nle (show 30 < 2 ^ 31 by decide) (show i < 2 ^ 31 by omega), hle, false_implies, not_false_iff, true_implies, true_and, nI_clamp (show i < 2 ^ 31 by omega), hn0, hn1, hv, forall_eq, nI_1]
    by_cases hi : i < np
    · simp only [hi, not_true, false_implies, true_implies, true_and, holds_eq (show i < s.2.2 0 by omega)]
      obtain ⟨q, hq⟩ : ∃ q, np - i = q + 1 := ⟨np - i - 1, by omega⟩
      have hq2 : np - (i + 1) = q := by omega
      by_cases hc : ph s x1 x2 i
      · rw [hq, frs_y hc] at hp
        simp [hc.1, hc.2]
        exact hp
      · rw [hq, frs_n hc, ← hq2] at hp
        have := ih (i + 1) f (by omega) (by omega) hp
        by_cases h3 : s.1 1 i 1 = x1
        · have h4 : ¬ wi x2 (s.1 1 i 3) (s.1 1 i 4) := fun h => hc ⟨h3, h⟩
          simp [h3, h4, this]
        · simp [h3, this]
    · have := ih (i + 1) f (by omega) (by omega) (by rw [show np - i = 0 by omega] at hp; rw [show np - (i + 1) = 0 by omega]; exact hp)
      simp [hi, this]
def phm (s : Sx) (x1 x2 : Int32) (p : Nat) : Prop := s.1 5 12 p = x1 ∧ wi x2 (s.1 5 14 p) (s.1 5 15 p)
theorem postOn_m {N : Nat} {s : Sx} {post : Int32 → Sx → Prop} {x1 x2 : Int32} {np : Nat} (hn0 : s.1 6 0 10 = nI np) (hnp : np ≤ 30) : ∀ (m i f : Nat), i + m = np → m < f → post (vo (-9) (frs (phm s x1 x2) m i)) s → w_X12_postOn_2 N post f s x1 x2 (nI i) := by
  intro m
  induction m with
  | zero =>
    intro i f h1 h2 hp
    obtain ⟨f, rfl⟩ : ∃ g, f = g + 1 := ⟨f - 1, by omega⟩
    have hi : i = np := by omega
    subst hi
    simp only [w_X12_postOn_2, hn0, nle (show i < 2 ^ 31 by omega) (show i < 2 ^ 31 by omega), Nat.le_refl, true_implies, not_true, false_implies, and_true]
    exact hp
  | succ m ih =>
    intro i f h1 h2 hp
    obtain ⟨f, rfl⟩ : ∃ g, f = g + 1 := ⟨f - 1, by omega⟩
    have hle : (np ≤ i) = False := by simp; omega
    have hv : vp_in (nI i) 30 := vp_in_nI (by omega) (by decide)
    simp only [w_X12_postOn_2, hn0, nle (show np < 2 ^ 31 by omega) (show i < 2 ^ 31 by omega), hle, false_implies, not_false_iff, true_implies, true_and, nI_clamp (show i < 2 ^ 31 by omega), hv, forall_eq, nI_1, wm_eq]
    by_cases hc : phm s x1 x2 i
    · rw [frs_y hc] at hp
      simp [hc.1, hc.2]
      exact hp
    · rw [frs_n hc] at hp
      have := ih (i + 1) f (by omega) (by omega) hp
      by_cases h3 : s.1 5 12 i = x1
      · have h4 : ¬ wi x2 (s.1 5 14 i) (s.1 5 15 i) := fun h => hc ⟨h3, h⟩
        simp [h3, h4, this]
      · simp [h3, this]
theorem ip_ph {s : Sx} (h : IP s) (x1 x2 : Int32) (m i : Nat) (hm : i + m ≤ s.2.2 0) : frs (phm s x1 x2) m i = frs (ph s x1 x2) m i := frs_cong (fun j h1 h2 => by
  obtain ⟨a1, a2, a3, a4, a5⟩ := (h.2.2.2.2.1 j (by omega)).1
  unfold phm ph
  rw [a2, a4, a5])
theorem cs_day {N k : Nat} {s : Sx} (hN : 20000 ≤ N) (hk : k ≤ 600) (hI : Inv k s) (x1 : Int32) (x2 : Int32) (P : Int32 → Int32 → Sx → Prop) (hP : ∀ r s', Inv (k + 1) s' → P r r s') : w_X11_day N x1 x2 s (fun r s1 => w_X12_day N x1 x2 s1 (fun r2 s2 => P r r2 s2)) := by
  have hI2 := hI.up
  obtain ⟨hIC, hIM, hIP, hIZ, hIR, hIY, hIW, hIT, hIF, hIL, hIS⟩ := id hI
  obtain ⟨m1, m2⟩ := id hIM
  obtain ⟨e1, e2, e3, e4, e5, e6⟩ := id hIP
  simp only [w_X11_day, w_X11_isMan, w_X11_isDay, w_X12_day, w_X12_isDay, wi_eq, wm_eq, forall_eq, rdI, rdU, rdI2, rdJ, rdJ1, rdN, rdN1, rdD, rdD2, rdD3, Nat.reduceEqDiff, and_self, and_true, true_and, and_false, false_and, if_true, if_false, reduceIte, Nat.zero_ne_one, Nat.one_ne_zero, i1n0, i0e0, not_true, not_false_iff, false_implies, true_implies, implies_true, mman_eq, m2, ← m1]
  by_cases h1 : wi x1 0 (s.1 0 0 1 - 1)
  · by_cases h2 : wi x2 0 399
    · simp only [h1, h2, true_implies, not_true, false_implies, and_true, true_and, i1n0, not_false_iff, true_or, or_true]
      refine day_c (np := s.2.2 0) rfl e3 e4 30 0 N (by omega) (by omega) ?_
      simp only [mman_eq, m2, ← m1, h1, h2, true_implies, not_true, false_implies, and_true, true_and, i1n0, not_false_iff, true_or, or_true, w_X12_postOn]
      refine postOn_m (np := s.2.2 0) (e1 ▸ e2) e4 (s.2.2 0) 0 N (by omega) (by omega) ?_
      rw [ip_ph hIP _ _ _ _ (by omega)]
      exact hP _ _ hI2
    · simp [h1, h2, hP _ _ hI2, mman_eq, m2, ← m1]
  · simp [h1, hP _ _ hI2, mman_eq, m2, ← m1]
