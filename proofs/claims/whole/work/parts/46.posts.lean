theorem max0 {N r q : Nat} {s : Sx} {post : Int32 → Sx → Prop} (hr : r < 2 ^ 29) (hq : q < 2 ^ 29) : w_J9_max_7cf53 N 0 ((nI r - nI q) + 1) s post = post (nI (r + 1 - q)) s := by
  unfold w_J9_max_7cf53
  rcases Nat.lt_or_ge r q with h | h
  · have h1 : ¬ (0 : Int32) < nI r - nI q + 1 := by
      rw [lt_, Int32.toInt_add, pk_sub_toInt (by omega) (by omega), show (1 : Int32).toInt = 1 from by decide, show (0 : Int32).toInt = 0 from by decide, Int.bmod_eq_of_le] <;> omega
    rw [show r + 1 - q = 0 by omega]
    simp [h1, nI_0]
  · rw [pk_sub h, nI_1, show r - q + 1 = r + 1 - q by omega]
    have h1 : (0 : Int32) < nI (r + 1 - q) := by
      rw [← nI_0]; exact nI_lt (by omega) (by omega)
    simp [h1]
theorem min_n {N a b : Nat} {s : Sx} {post : Int32 → Sx → Prop} (ha : a < 2 ^ 31) (hb : b < 2 ^ 31) : w_J9_min_7cf53 N (nI a) (nI b) s post = post (nI (min a b)) s := by
  unfold w_J9_min_7cf53
  rw [nlt hb ha]
  rcases Nat.lt_or_ge b a with h | h
  · simp [h, show min a b = b by omega]
  · simp [show ¬ b < a by omega, show min a b = a by omega]
theorem max_n {N a b : Nat} {s : Sx} {post : Int32 → Sx → Prop} (ha : a < 2 ^ 31) (hb : b < 2 ^ 31) : w_J9_max_7cf53 N (nI a) (nI b) s post = post (nI (max a b)) s := by
  unfold w_J9_max_7cf53
  rw [nlt ha hb]
  rcases Nat.lt_or_ge a b with h | h
  · simp [h, show max a b = b by omega]
  · simp [show ¬ a < b by omega, show max a b = a by omega]
theorem daysIn_eq {N p a b c d : Nat} {s : Sx} {post : Int32 → Sx → Prop} (hp : p < s.2.2 0) (ea : s.1 1 p 3 = nI a) (eb : s.1 1 p 4 = nI b) (ha : a ≤ 399) (hb : b ≤ 399) (hc : c ≤ 399) (hd : d ≤ 399) : w_X6_daysIn N p (nI c) (nI d) s post = post (nI (min b d + 1 - max a c)) s := by
  simp only [w_X6_daysIn, hp, true_and, ea, eb, min_n (show b < 2 ^ 31 by omega) (show d < 2 ^ 31 by omega), max_n (show a < 2 ^ 31 by omega) (show c < 2 ^ 31 by omega)]
  exact max0 (by omega) (by omega)
/-- days of the posts below i of the man x2 in c .. d -/
noncomputable def ds (s : Sx) (x2 : Int32) (c d : Nat) : Nat → Nat
  | 0 => 0
  | i + 1 => ds s x2 c d i + @ite _ (s.1 1 i 1 = x2) (pd _) (min (s.1 1 i 4).toNatClampNeg d + 1 - max (s.1 1 i 3).toNatClampNeg c) 0
theorem ds_le {s : Sx} {x2 : Int32} {c d : Nat} (hd : d ≤ 399) : ∀ i, ds s x2 c d i ≤ 400 * i
  | 0 => Nat.le_refl _
  | i + 1 => by
    have := ds_le (s := s) (x2 := x2) (c := c) hd i
    show ds s x2 c d i + _ ≤ _
    rcases Classical.em (s.1 1 i 1 = x2) with h | h
    · rw [if_pos h]; omega
    · rw [if_neg h]; omega
theorem days_c {N : Nat} {s : Sx} {post : Int32 → Sx → Prop} {x1 : Int32} {c d np : Nat} (hI : IP s) (hn0 : s.2.2 0 = np) (hc : c ≤ 399) (hd : d ≤ 399) (hp : post (nI (ds s x1 c d np)) s) : ∀ (m i f : Nat), i + m = 30 → m < f → w_X11_daysOnPosts_17 N post f s x1 (nI c) (nI d) (nI (ds s x1 c d (min i np))) 30 (nI i) := by
  obtain ⟨e1, e2, e3, e4, e5, e6⟩ := id hI
  have hn1 : s.2.2 1 = np := by omega
  have hnp : np ≤ 30 := by omega
  intro m
  induction m with
  | zero =>
    intro i f h1 h2
    obtain ⟨f, rfl⟩ : ∃ g, f = g + 1 := ⟨f - 1, by omega⟩
    have hi : i = 30 := by omega
    subst hi
    simp only [w_X11_daysOnPosts_17, lit30, nle (show 30 < 2 ^ 31 by decide) (show 30 < 2 ^ 31 by decide), Nat.le_refl, true_implies, false_implies, implies_true, not_true_eq_false, not_false_eq_true, not_true, not_false_iff, and_true, true_and, and_false, false_and, true_or, or_true, i1n0, i0e0]
    rw [show min 30 np = np by omega]
    exact hp
  | succ m ih =>
    intro i f h1 h2
    obtain ⟨f, rfl⟩ : ∃ g, f = g + 1 := ⟨f - 1, by omega⟩
    have hle : (30 ≤ i) = False := by simp; omega
    have hv : vp_in (nI i) 30 := vp_in_nI (by omega) (by decide)
    have hih := ih (i + 1) f (by omega) (by omega)
    simp only [w_X11_daysOnPosts_17, lit30, nle (show 30 < 2 ^ 31 by decide) (show i < 2 ^ 31 by omega), hle, true_implies, false_implies, implies_true, not_true_eq_false, not_false_eq_true, not_true, not_false_iff, and_true, true_and, and_false, false_and, true_or, or_true, i1n0, i0e0, nI_clamp (show i < 2 ^ 31 by omega), hn0, hn1, hv, forall_eq, nI_1]
    simp only [lit30] at hih
    by_cases hi : i < np
    · rw [show min i np = i by omega]
      rw [show min (i + 1) np = i + 1 by omega] at hih
      obtain ⟨-, p1, p2, p3, p4⟩ := e5 i (by omega)
      obtain ⟨a, ha, ea⟩ := wi_n (n := 399) (by decide) p2
      obtain ⟨b, hb, eb⟩ := wi_n (n := 399) (by decide) p3
      simp only [hi, true_implies, false_implies, implies_true, not_true_eq_false, not_false_eq_true, not_true, not_false_iff, and_true, true_and, and_false, false_and, true_or, or_true, i1n0, i0e0, daysIn_eq (show i < s.2.2 0 by omega) ea eb ha hb hc hd, nI_add]
      by_cases h3 : s.1 1 i 1 = x1
      · have e : ds s x1 c d (i + 1) = ds s x1 c d i + (min b d + 1 - max a c) := by
          show ds s x1 c d i + _ = _
          rw [if_pos h3, ea, eb, nI_clamp (by omega), nI_clamp (by omega)]
        rw [e] at hih
        simp [h3, hih]
      · have e : ds s x1 c d (i + 1) = ds s x1 c d i := by
          show ds s x1 c d i + _ = _
          rw [if_neg h3, Nat.add_zero]
        rw [e] at hih
        simp [h3, hih]
    · rw [show min i np = np by omega]
      rw [show min (i + 1) np = np by omega] at hih
      simp [hi, hih]
/-- the post p shares a day with c .. d, of the man x2 -/
def ovl (s : Sx) (x2 x4 x5 : Int32) (p : Nat) : Prop := s.1 1 p 1 = x2 ∧ s.1 1 p 3 ≤ x5 ∧ x4 ≤ s.1 1 p 4
theorem ds_0 {s : Sx} {x2 : Int32} {c d np : Nat} (hI : IP s) (hc : c ≤ 399) (hd : d ≤ 399) (hcd : c ≤ d) : ∀ i, i ≤ s.2.2 0 → (ds s x2 c d i = 0 ↔ ∀ p, p < i → ¬ ovl s x2 (nI c) (nI d) p) := by
  intro i
  induction i with
  | zero => intro _; exact ⟨fun _ p h => by omega, fun _ => rfl⟩
  | succ i ih =>
    intro hi
    have ih := ih (by omega)
    obtain ⟨-, p1, p2, p3, p4⟩ := hI.2.2.2.2.1 i (by omega)
    obtain ⟨a, ha, ea⟩ := wi_n (n := 399) (by decide) p2
    obtain ⟨b, hb, eb⟩ := wi_n (n := 399) (by decide) p3
    rw [ea, eb, nle (by omega) (by omega)] at p4
    have key : (@ite Nat (s.1 1 i 1 = x2) (pd _) (min (s.1 1 i 4).toNatClampNeg d + 1 - max (s.1 1 i 3).toNatClampNeg c) 0 = 0) ↔ ¬ ovl s x2 (nI c) (nI d) i := by
      unfold ovl
      rw [ea, eb, nI_clamp (by omega), nI_clamp (by omega), nle (by omega) (by omega), nle (by omega) (by omega)]
      rcases Classical.em (s.1 1 i 1 = x2) with h | h
      · rw [if_pos h]
        constructor
        · rintro h2 ⟨-, h3, h4⟩; omega
        · intro h2
          rcases Nat.lt_or_ge d a with q | q
          · omega
          · rcases Nat.lt_or_ge b c with r | r
            · omega
            · exact absurd ⟨h, q, r⟩ h2
      · rw [if_neg h]
        exact ⟨fun _ h2 => h h2.1, fun _ => rfl⟩
    show ds s x2 c d i + _ = 0 ↔ _
    rw [Nat.add_eq_zero_iff, ih, key]
    constructor
    · rintro ⟨h1, h2⟩ p hp
      rcases Nat.lt_or_ge p i with q | q
      · exact h1 p q
      · rw [show p = i by omega]; exact h2
    · intro h
      exact ⟨fun p hp => h p (by omega), h i (by omega)⟩
def ovm (s : Sx) (x2 x4 x5 : Int32) (p : Nat) : Prop := s.1 5 12 p = x2 ∧ s.1 5 14 p ≤ x5 ∧ x4 ≤ s.1 5 15 p
theorem ip_ov {s : Sx} (h : IP s) {p : Nat} (hp : p < s.2.2 0) (x2 x4 x5 : Int32) : ovm s x2 x4 x5 p ↔ ovl s x2 x4 x5 p := by
  obtain ⟨a1, a2, a3, a4, a5⟩ := (h.2.2.2.2.1 p hp).1
  unfold ovm ovl
  rw [a2, a4, a5]
theorem post_no {N : Nat} {s : Sx} {post : Int32 → Sx → Prop} {x1 x2 x3 x4 x5 : Int32} {np : Nat} (hc : s.1 6 0 10 = nI np) (hnp : np ≤ 30) (hno : ∀ p, p < np → ¬ ovm s x2 x4 x5 p) (hE : w_X12_post_43 N post 1 s x1 x2 x3 x4 x5 (nI np)) : ∀ (m i f : Nat), i + m = np → m < f → w_X12_post_43 N post f s x1 x2 x3 x4 x5 (nI i) := by
  intro m
  induction m with
  | zero =>
    intro i f h1 h2
    obtain ⟨f, rfl⟩ : ∃ g, f = g + 1 := ⟨f - 1, by omega⟩
    have hi : i = np := by omega
    subst hi
    simp only [w_X12_post_43, hc, nle (show i < 2 ^ 31 by omega) (show i < 2 ^ 31 by omega), Nat.le_refl, true_implies, false_implies, implies_true, not_true_eq_false, not_false_eq_true, not_true, not_false_iff, and_true, true_and, and_false, false_and, true_or, or_true, i1n0, i0e0] at hE ⊢
    exact hE
  | succ m ih =>
    intro i f h1 h2
    obtain ⟨f, rfl⟩ : ∃ g, f = g + 1 := ⟨f - 1, by omega⟩
    have hle : (np ≤ i) = False := by simp; omega
    have hv : vp_in (nI i) 30 := vp_in_nI (by omega) (by decide)
    have hih := ih (i + 1) f (by omega) (by omega)
    simp only [w_X12_post_43, hc, nle (show np < 2 ^ 31 by omega) (show i < 2 ^ 31 by omega), hle, true_implies, false_implies, implies_true, not_true_eq_false, not_false_eq_true, not_true, not_false_iff, and_true, true_and, and_false, false_and, true_or, or_true, i1n0, i0e0, nI_clamp (show i < 2 ^ 31 by omega), hv, forall_eq, nI_1]
    have hno2 := hno i (by omega)
    unfold ovm at hno2
    by_cases b1 : s.1 5 12 i = x2
    · by_cases b2 : x5 < s.1 5 14 i
      · simp [b1, b2, hih]
      · by_cases b3 : s.1 5 15 i < x4
        · simp [b1, b2, b3, hih]
        · exact absurd ⟨b1, by rw [lt_] at b2; rw [le_]; omega, by rw [lt_] at b3; rw [le_]; omega⟩ hno2
    · simp [b1, hih]
theorem post_yes {N : Nat} {s : Sx} {post : Int32 → Sx → Prop} {x1 x2 x3 x4 x5 : Int32} {np : Nat} (hI : IP s) (hn0 : s.2.2 0 = np) (hp : post (-3) s) : ∀ (m i f : Nat), i + m = np → m < f → (∃ p, i ≤ p ∧ p < np ∧ ovl s x2 x4 x5 p) → w_X12_post_43 N post f s x1 x2 x3 x4 x5 (nI i) := by
  obtain ⟨e1, e2, e3, e4, e5, e6⟩ := id hI
  have hc : s.1 6 0 10 = nI np := by rw [← e1, e2, hn0]
  have hnp : np ≤ 30 := by omega
  intro m
  induction m with
  | zero =>
    intro i f h1 h2 ⟨p, q1, q2, q3⟩
    omega
  | succ m ih =>
    intro i f h1 h2 ⟨p, q1, q2, q3⟩
    obtain ⟨f, rfl⟩ : ∃ g, f = g + 1 := ⟨f - 1, by omega⟩
    have hle : (np ≤ i) = False := by simp; omega
    have hv : vp_in (nI i) 30 := vp_in_nI (by omega) (by decide)
    simp only [w_X12_post_43, hc, nle (show np < 2 ^ 31 by omega) (show i < 2 ^ 31 by omega), hle, true_implies, false_implies, implies_true, not_true_eq_false, not_false_eq_true, not_true, not_false_iff, and_true, true_and, and_false, false_and, true_or, or_true, i1n0, i0e0, nI_clamp (show i < 2 ^ 31 by omega), hv, forall_eq, nI_1]
    obtain ⟨a1, a2, a3, a4, a5⟩ := (e5 i (by omega)).1
    rcases Classical.em (ovl s x2 x4 x5 i) with h3 | h3
    · unfold ovl at h3
      rw [a2, a4, a5] at h3
      have b2 : ¬ x5 < s.1 5 14 i := by rw [lt_]; have := h3.2.1; rw [le_] at this; omega
      have b3 : ¬ s.1 5 15 i < x4 := by rw [lt_]; have := h3.2.2; rw [le_] at this; omega
      simp [h3.1, b2, b3, hp]
    · have hih := ih (i + 1) f (by omega) (by omega) ⟨p, by
        rcases Nat.lt_or_ge i p with q | q
        · omega
        · rw [show i = p by omega] at h3; exact absurd q3 h3, q2, q3⟩
      unfold ovl at h3
      rw [a2, a4, a5] at h3
      by_cases b1 : s.1 5 12 i = x2
      · by_cases b2 : x5 < s.1 5 14 i
        · simp [b1, b2, hih]
        · by_cases b3 : s.1 5 15 i < x4
          · simp [b1, b2, b3, hih]
          · exact absurd ⟨b1, by rw [lt_] at b2; rw [le_]; omega, by rw [lt_] at b3; rw [le_]; omega⟩ h3
      · simp [b1, hih]
