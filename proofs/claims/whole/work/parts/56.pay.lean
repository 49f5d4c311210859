/-! pay -/
def sN (f : Nat → Nat) : Nat → Nat
  | 0 => 0
  | n + 1 => sN f n + f n
theorem sN_s (f : Nat → Nat) (n : Nat) : sN f (n + 1) = sN f n + f n := rfl
theorem sN_add (f g : Nat → Nat) : ∀ n, sN (fun i => f i + g i) n = sN f n + sN g n
  | 0 => rfl
  | n + 1 => by rw [sN_s, sN_s, sN_s, sN_add f g n]; omega
theorem sN_0 : ∀ n, sN (fun _ => 0) n = 0
  | 0 => rfl
  | n + 1 => by rw [sN_s, sN_0 n]
theorem sN_cong {f g : Nat → Nat} : ∀ {n}, (∀ i, i < n → f i = g i) → sN f n = sN g n
  | 0, _ => rfl
  | n + 1, h => by rw [sN_s, sN_s, sN_cong (fun i hi => h i (by omega)), h n (by omega)]
theorem sN_swap (g : Nat → Nat → Nat) (m : Nat) : ∀ n, sN (fun d => sN (fun p => g p d) n) m = sN (fun p => sN (fun d => g p d) m) n
  | 0 => by rw [show (fun d => sN (fun p => g p d) 0) = (fun _ => 0) from rfl, sN_0]; rfl
  | n + 1 => by
    rw [sN_s, ← sN_swap g m n, ← sN_add]
    rfl
theorem sN_le {f : Nat → Nat} {B : Nat} (h : ∀ i, f i ≤ B) : ∀ n, sN f n ≤ n * B
  | 0 => by show 0 ≤ _; omega
  | n + 1 => by have := sN_le h n; have := h n; rw [sN_s, Nat.succ_mul]; omega
theorem sN_in {lo hi a r : Nat} : ∀ m, sN (fun d => if lo ≤ a + d ∧ a + d ≤ hi then r else 0) m = (min (hi + 1) (a + m) - max lo a) * r
  | 0 => by
    show 0 = _
    rw [show min (hi + 1) (a + 0) - max lo a = 0 by omega, Nat.zero_mul]
  | m + 1 => by
    rw [sN_s, sN_in m]
    by_cases h : lo ≤ a + m ∧ a + m ≤ hi
    · rw [if_pos h, show min (hi + 1) (a + (m + 1)) - max lo a = (min (hi + 1) (a + m) - max lo a) + 1 by omega, Nat.succ_mul]
    · rw [if_neg h, show min (hi + 1) (a + (m + 1)) - max lo a = min (hi + 1) (a + m) - max lo a by omega, Nat.add_zero]
theorem frs_some {c : Nat → Prop} : ∀ {m i p : Nat}, frs c m i = some p → i ≤ p ∧ p < i + m ∧ c p
  | 0, _, _, h => by simp [frs] at h
  | m + 1, i, p, h => by
    by_cases e : c i
    · rw [frs_y e] at h; injection h with h; subst h; exact ⟨Nat.le_refl _, by omega, e⟩
    · rw [frs_n e] at h; have := frs_some h; exact ⟨by omega, by omega, this.2.2⟩
theorem frs_none {c : Nat → Prop} : ∀ {m i : Nat}, frs c m i = none → ∀ p, i ≤ p → p < i + m → ¬ c p
  | 0, _, _, p, h1, h2 => by omega
  | m + 1, i, h, p, h1, h2 => by
    by_cases e : c i
    · rw [frs_y e] at h; simp at h
    · rw [frs_n e] at h
      by_cases q : p = i
      · subst q; exact e
      · exact frs_none h p (by omega) (by omega)
def rt (s : Sx) (p : Nat) : Nat := (s.1 0 10 (s.1 1 p 0).toNatClampNeg).toNatClampNeg
theorem rt_e {s : Sx} (h : IY s) (p : Nat) : rt s p ≤ 999 ∧ s.1 0 10 (s.1 1 p 0).toNatClampNeg = nI (rt s p) := by
  obtain ⟨a, ha, ea⟩ := wi_n (n := 999) (by decide) (h.2.1 (s.1 1 p 0).toNatClampNeg)
  unfold rt
  rw [ea, nI_clamp (by omega)]
  exact ⟨ha, rfl⟩
noncomputable def pg (s : Sx) (x : Int32) (p d : Nat) : Nat := @ite _ (ph s x (nI d) p) (pd _) (rt s p) 0
noncomputable def er (s : Sx) (x : Int32) (d : Nat) : Nat := match frs (ph s x (nI d)) (s.2.2 0) 0 with
  | some p => rt s p
  | none => 0
theorem sN_one {f : Nat → Nat} {p : Nat} : ∀ {n}, p < n → (∀ i, i < n → i ≠ p → f i = 0) → sN f n = f p
  | n + 1, hp, h => by
    rw [sN_s]
    by_cases e : p = n
    · subst e
      rw [sN_cong (g := fun _ => 0) (fun i hi => h i (by omega) (by omega)), sN_0]; omega
    · rw [sN_one (by omega) (fun i hi hne => h i (by omega) hne), h n (by omega) (by omega)]; omega
theorem er_eq {s : Sx} {x : Int32} {d : Nat} (hI : IP s) : er s x d = sN (fun p => pg s x p d) (s.2.2 0) := by
  unfold er
  rcases hf : frs (ph s x (nI d)) (s.2.2 0) 0 with _ | p
  · have := frs_none hf
    rw [sN_cong (f := fun p => pg s x p d) (g := fun _ => 0) (fun i hi => if_neg (this i (by omega) (by omega))), sN_0]
  · obtain ⟨-, h1, h2⟩ := frs_some hf
    rw [sN_one (p := p) (by omega)]
    · exact (if_pos h2).symm
    · intro i hi hne
      refine if_neg (fun q => ?_)
      have := hI.2.2.2.2.2 i p hi (by omega) hne (q.1.trans h2.1.symm)
      have a1 := wi_i.mp q.2
      have a2 := wi_i.mp h2.2
      rw [lt_, lt_] at this
      omega
noncomputable def ce (s : Sx) (x : Int32) (a b p : Nat) : Nat := @ite _ (s.1 1 p 1 = x) (pd _) ((min (s.1 1 p 4).toNatClampNeg b + 1 - max (s.1 1 p 3).toNatClampNeg a) * rt s p) 0
theorem pg_sum {s : Sx} {x : Int32} {a b p : Nat} (hI : IP s) (hp : p < s.2.2 0) (hab : a ≤ b) (hb : b ≤ 399) : sN (fun d => pg s x p (a + d)) (b - a + 1) = ce s x a b p := by
  obtain ⟨-, p1, p2, p3, p4⟩ := hI.2.2.2.2.1 p hp
  obtain ⟨f, hf, ef⟩ := wi_n (n := 399) (by decide) p2
  obtain ⟨t, ht, et⟩ := wi_n (n := 399) (by decide) p3
  unfold ce
  by_cases hm : s.1 1 p 1 = x
  · rw [if_pos hm, et, ef, nI_clamp (by omega), nI_clamp (by omega)]
    have := sN_in (lo := f) (hi := t) (a := a) (r := rt s p) (b - a + 1)
    rw [show min t b + 1 - max f a = min (t + 1) (a + (b - a + 1)) - max f a by omega, ← this]
    refine sN_cong (fun d hd => ?_)
    unfold pg ph
    rw [ef, et]
    by_cases c : f ≤ a + d ∧ a + d ≤ t
    · rw [if_pos c, if_pos]
      exact ⟨hm, nI_le c.1 (by omega), nI_le c.2 (by omega)⟩
    · rw [if_neg c, if_neg]
      rintro ⟨-, q1, q2⟩
      rw [nle (by omega) (by omega)] at q1 q2
      exact c ⟨q1, q2⟩
  · rw [if_neg hm]
    rw [sN_cong (f := fun d => pg s x p (a + d)) (g := fun _ => 0) (fun d hd => if_neg (fun q => hm q.1)), sN_0]
theorem pay_eq {s : Sx} {x : Int32} {a b : Nat} (hI : IP s) (hab : a ≤ b) (hb : b ≤ 399) : sN (fun d => er s x (a + d)) (b - a + 1) = sN (ce s x a b) (s.2.2 0) := by
  rw [sN_cong (g := fun d => sN (fun p => pg s x p (a + d)) (s.2.2 0)) (fun i _ => er_eq hI)]
  rw [sN_swap (fun p d => pg s x p (a + d))]
  exact sN_cong (fun p hp => pg_sum hI hp hab hb)
theorem er_le {s : Sx} {x : Int32} (hY : IY s) (d : Nat) : er s x d ≤ 999 := by
  unfold er
  rcases frs (ph s x (nI d)) (s.2.2 0) 0 with _ | p
  · show 0 ≤ 999; omega
  · exact (rt_e hY p).1
theorem ec_loop {N a b np : Nat} {s : Sx} {x : Int32} {post : Int32 → Sx → Prop} (hI : IP s) (hY : IY s) (hn0 : s.2.2 0 = np) (ha : a ≤ 399) (hb : b ≤ 399) (hp : post (nI (sN (ce s x a b) np)) s) : ∀ (m i f : Nat), i + m = 30 → m < f → w_X4_earnedOn_14 N post f s x (nI a) (nI b) (nI (sN (ce s x a b) (min i np))) 30 (nI i) := by
  obtain ⟨e1, e2, e3, e4, e5, e6⟩ := id hI
  have hn1 : s.2.2 1 = np := by omega
  have hnp : np ≤ 30 := by omega
  intro m
  induction m with
  | zero =>
    intro i f h1 h2
    obtain ⟨f, rfl⟩ : ∃ g, f = g + 1 := ⟨f - 1, by omega⟩
    have hi : i = 30 := by omega
    subst hi
    simp only [w_X4_earnedOn_14, lit30, nle (show 30 < 2 ^ 31 by decide) (show 30 < 2 ^ 31 by decide), Nat.le_refl, true_implies, false_implies, implies_true, not_true_eq_false, not_false_eq_true, not_true, not_false_iff, and_true, true_and, and_false, false_and, true_or, or_true, i1n0, i0e0]
    rw [show min 30 np = np by omega]
    exact hp
  | succ m ih =>
    intro i f h1 h2
    obtain ⟨f, rfl⟩ : ∃ g, f = g + 1 := ⟨f - 1, by omega⟩
    have hle : (30 ≤ i) = False := by simp; omega
    have hv : vp_in (nI i) 30 := vp_in_nI (by omega) (by decide)
    have hih := ih (i + 1) f (by omega) (by omega)
    simp only [lit30] at hih
    by_cases hi : i < np
    · rw [show min i np = i by omega]
      rw [show min (i + 1) np = i + 1 by omega] at hih
      obtain ⟨-, p1, p2, p3, p4⟩ := e5 i (by omega)
      obtain ⟨c, hc, ec⟩ := wi_n (n := 399) (by decide) p2
      obtain ⟨d, hd, ed⟩ := wi_n (n := 399) (by decide) p3
      have hv3 := wi_in (M := 2) (m := 3) (by decide) p1 (by decide) (by decide)
      obtain ⟨r1, r2⟩ := rt_e hY i
      simp only [w_X4_earnedOn_14, lit30, nle (show 30 < 2 ^ 31 by decide) (show i < 2 ^ 31 by omega), hle, true_implies, false_implies, implies_true, not_true_eq_false, not_false_eq_true, not_true, not_false_iff, and_true, true_and, and_false, false_and, true_or, or_true, i1n0, i0e0, nI_clamp (show i < 2 ^ 31 by omega), hn0, hn1, hv, hi, forall_eq, nI_1, daysIn_eq (show i < s.2.2 0 by omega) ec ed hc hd ha hb, hv3, r2, pk_mul, nI_add]
      by_cases h3 : s.1 1 i 1 = x
      · have e : sN (ce s x a b) (i + 1) = sN (ce s x a b) i + (min d b + 1 - max c a) * rt s i := by
          rw [sN_s]
          congr 1
          unfold ce
          rw [if_pos h3, ec, ed, nI_clamp (by omega), nI_clamp (by omega)]
        rw [e] at hih
        simp only [h3, true_implies, false_implies, implies_true, not_true_eq_false, not_false_eq_true, not_true, not_false_iff, and_true, true_and, and_false, false_and, true_or, or_true, i1n0, i0e0]
        exact hih
      · have e : sN (ce s x a b) (i + 1) = sN (ce s x a b) i := by
          rw [sN_s]
          unfold ce
          rw [if_neg h3, Nat.add_zero]
        rw [e] at hih
        simp only [h3, true_implies, false_implies, implies_true, not_true_eq_false, not_false_eq_true, not_true, not_false_iff, and_true, true_and, and_false, false_and, true_or, or_true, i1n0, i0e0]
        exact hih
    · rw [show min (i + 1) np = min i np by omega] at hih
      simp only [w_X4_earnedOn_14, lit30, nle (show 30 < 2 ^ 31 by decide) (show i < 2 ^ 31 by omega), hle, true_implies, false_implies, implies_true, not_true_eq_false, not_false_eq_true, not_true, not_false_iff, and_true, true_and, and_false, false_and, true_or, or_true, i1n0, i0e0, nI_clamp (show i < 2 ^ 31 by omega), hn0, hn1, hv, hi, forall_eq, nI_1]
      exact hih
/-- the fines of a man -/
noncomputable def fnn (s : Sx) (x a b : Int32) : Nat → Int32
  | 0 => 0
  | i + 1 => @ite _ (s.1 0 11 i = x ∧ wi (s.1 0 12 i) a b) (pd _) (fnn s x a b i + s.1 0 13 i) (fnn s x a b i)
theorem fnn_y {s : Sx} {x a b : Int32} {i : Nat} (h : s.1 0 11 i = x ∧ wi (s.1 0 12 i) a b) : fnn s x a b (i + 1) = fnn s x a b i + s.1 0 13 i := by
  conv => lhs; unfold fnn
  rw [if_pos h]
theorem fnn_n {s : Sx} {x a b : Int32} {i : Nat} (h : ¬ (s.1 0 11 i = x ∧ wi (s.1 0 12 i) a b)) : fnn s x a b (i + 1) = fnn s x a b i := by
  conv => lhs; unfold fnn
  rw [if_neg h]
theorem fi_c {N c : Nat} {s : Sx} {x a b : Int32} {post : Int32 → Sx → Prop} (hc : s.1 0 9 6 = nI c) (hc2 : c ≤ 30) (hp : post (fnn s x a b c) s) : ∀ m i fuel, i + m = c → m < fuel → w_X4_finesOf_6 N post fuel s x a b (fnn s x a b i) (nI i) := by
  intro m
  induction m with
  | zero =>
    intro i f h1 h2
    obtain ⟨f, rfl⟩ : ∃ g, f = g + 1 := ⟨f - 1, by omega⟩
    have hi : i = c := by omega
    subst hi
    simp only [w_X4_finesOf_6, hc, nle (show i < 2 ^ 31 by omega) (show i < 2 ^ 31 by omega), Nat.le_refl, true_implies, false_implies, implies_true, not_true_eq_false, not_false_eq_true, not_true, not_false_iff, and_true, true_and, and_false, false_and, true_or, or_true, i1n0, i0e0]
    exact hp
  | succ m ih =>
    intro i f h1 h2
    obtain ⟨f, rfl⟩ : ∃ g, f = g + 1 := ⟨f - 1, by omega⟩
    have hr := ih (i + 1) f (by omega) (by omega)
    have hv : vp_in (nI i) 30 := vp_in_nI (by omega) (by decide)
    simp only [w_X4_finesOf_6, wi_eq, hc, nle (show c < 2 ^ 31 by omega) (show i < 2 ^ 31 by omega), show ¬ c ≤ i by omega, true_implies, false_implies, implies_true, not_true_eq_false, not_false_eq_true, not_true, not_false_iff, and_true, true_and, and_false, false_and, true_or, or_true, i1n0, i0e0, hv, nI_clamp (show i < 2 ^ 31 by omega), forall_eq, nI_1]
    by_cases h3 : s.1 0 11 i = x
    · by_cases h4 : wi (s.1 0 12 i) a b
      · rw [fnn_y ⟨h3, h4⟩] at hr
        simp only [h3, h4, true_implies, false_implies, implies_true, not_true_eq_false, not_false_eq_true, not_true, not_false_iff, and_true, true_and, and_false, false_and, true_or, or_true, i1n0, i0e0]
        exact hr
      · rw [fnn_n (fun q => h4 q.2)] at hr
        simp only [h3, h4, true_implies, false_implies, implies_true, not_true_eq_false, not_false_eq_true, not_true, not_false_iff, and_true, true_and, and_false, false_and, true_or, or_true, i1n0, i0e0]
        exact hr
    · rw [fnn_n (fun q => h3 q.1)] at hr
      simp only [h3, true_implies, false_implies, implies_true, not_true_eq_false, not_false_eq_true, not_true, not_false_iff, and_true, true_and, and_false, false_and, true_or, or_true, i1n0, i0e0]
      exact hr
theorem fi_m {N c : Nat} {s : Sx} {x a b x4 x5 : Int32} {post : Int32 → Sx → Prop} (hY : IY s) (hc : s.1 0 9 6 = nI c) (hc2 : c ≤ 30) (hp : w_X12_pay_183 N post s x4 x5 (fnn s x a b c) ((x5 * s.1 0 9 1) / s.1 0 9 2) (if x5 - (x5 * s.1 0 9 1) / s.1 0 9 2 < fnn s x a b c then x5 - (x5 * s.1 0 9 1) / s.1 0 9 2 else fnn s x a b c)) : ∀ m i fuel, i + m = c → m < fuel → w_X12_pay_92 N post fuel s x a b x4 x5 (fnn s x a b i) (nI i) := by
  obtain ⟨e1, e2, e3, e4, e5, e6, e7, e8, e9, e10, e11, e12⟩ := id hY
  have hnz : ¬ s.1 0 9 2 = 0 := fun e => by
    have := (wi_i.mp e5).1
    rw [e] at this
    exact absurd this (by decide)
  intro m
  induction m with
  | zero =>
    intro i f h1 h2
    obtain ⟨f, rfl⟩ : ∃ g, f = g + 1 := ⟨f - 1, by omega⟩
    have hi : i = c := by omega
    subst hi
    simp only [w_X12_pay_92, ← e7, ← e3, ← e4, hc, nle (show i < 2 ^ 31 by omega) (show i < 2 ^ 31 by omega), Nat.le_refl, true_implies, false_implies, implies_true, not_true_eq_false, not_false_eq_true, not_true, not_false_iff, and_true, true_and, and_false, false_and, true_or, or_true, i1n0, i0e0, hnz, forall_eq]
    rw [← le_lt_if] at hp
    by_cases q : x5 - x5 * s.1 0 9 1 / s.1 0 9 2 ≤ fnn s x a b i
    · rw [if_pos q] at hp
      simp only [q, true_implies, false_implies, implies_true, not_true_eq_false, not_false_eq_true, not_true, not_false_iff, and_true, true_and, and_false, false_and, true_or, or_true, i1n0, i0e0]
      exact hp
    · rw [if_neg q] at hp
      simp only [q, true_implies, false_implies, implies_true, not_true_eq_false, not_false_eq_true, not_true, not_false_iff, and_true, true_and, and_false, false_and, true_or, or_true, i1n0, i0e0]
      exact hp
  | succ m ih =>
    intro i f h1 h2
    obtain ⟨f, rfl⟩ : ∃ g, f = g + 1 := ⟨f - 1, by omega⟩
    have hr := ih (i + 1) f (by omega) (by omega)
    have hv : vp_in (nI i) 30 := vp_in_nI (by omega) (by decide)
    simp only [w_X12_pay_92, w_X12_pay_139, wm_eq, ← e7, ← e9, ← e10, ← e11, hc, nle (show c < 2 ^ 31 by omega) (show i < 2 ^ 31 by omega), show ¬ c ≤ i by omega, true_implies, false_implies, implies_true, not_true_eq_false, not_false_eq_true, not_true, not_false_iff, and_true, true_and, and_false, false_and, true_or, or_true, i1n0, i0e0, hv, nI_clamp (show i < 2 ^ 31 by omega), forall_eq, nI_1, Int32.add_zero]
    by_cases h3 : s.1 0 11 i = x
    · by_cases h4 : wi (s.1 0 12 i) a b
      · rw [fnn_y ⟨h3, h4⟩] at hr
        simp only [h3, h4, true_implies, false_implies, implies_true, not_true_eq_false, not_false_eq_true, not_true, not_false_iff, and_true, true_and, and_false, false_and, true_or, or_true, i1n0, i0e0]
        exact hr
      · rw [fnn_n (fun q => h4 q.2)] at hr
        simp only [h3, h4, true_implies, false_implies, implies_true, not_true_eq_false, not_false_eq_true, not_true, not_false_iff, and_true, true_and, and_false, false_and, true_or, or_true, i1n0, i0e0]
        exact hr
    · rw [fnn_n (fun q => h3 q.1)] at hr
      simp only [h3, true_implies, false_implies, implies_true, not_true_eq_false, not_false_eq_true, not_true, not_false_iff, and_true, true_and, and_false, false_and, true_or, or_true, i1n0, i0e0]
      exact hr
theorem em_loop {N a b : Nat} {s : Sx} {x x4 : Int32} {post : Int32 → Sx → Prop} (hN : 20000 ≤ N) (hI : IP s) (hY : IY s) (hab : a ≤ b) (hb : b ≤ 399) (hp : w_X12_pay_92 N post N s x (nI a) (nI b) x4 (nI (sN (fun d => er s x (a + d)) (b - a + 1))) 0 0) : ∀ m i fuel, i + m = b - a + 1 → m < fuel → w_X12_pay_37 N post fuel s x (nI a) (nI b) x4 (nI (sN (fun d => er s x (a + d)) i)) (nI (a + i)) := by
  obtain ⟨e1, e2, e3, e4, e5, e6⟩ := id hI
  intro m
  induction m with
  | zero =>
    intro i f h1 h2
    obtain ⟨f, rfl⟩ : ∃ g, f = g + 1 := ⟨f - 1, by omega⟩
    simp only [w_X12_pay_37, nlt (show b < 2 ^ 31 by omega) (show a + i < 2 ^ 31 by omega), show b < a + i by omega, true_implies, false_implies, implies_true, not_true_eq_false, not_false_eq_true, not_true, not_false_iff, and_true, true_and, and_false, false_and, true_or, or_true, i1n0, i0e0]
    rw [show i = b - a + 1 by omega]
    exact hp
  | succ m ih =>
    intro i f h1 h2
    obtain ⟨f, rfl⟩ : ∃ g, f = g + 1 := ⟨f - 1, by omega⟩
    have hr := ih (i + 1) f (by omega) (by omega)
    simp only [w_X12_pay_37, w_X12_postOn, nlt (show b < 2 ^ 31 by omega) (show a + i < 2 ^ 31 by omega), show ¬ b < a + i by omega, true_implies, false_implies, implies_true, not_true_eq_false, not_false_eq_true, not_true, not_false_iff, and_true, true_and, and_false, false_and, true_or, or_true, i1n0, i0e0]
    refine postOn_m (np := s.2.2 0) (by rw [← e1, e2]) e4 (s.2.2 0) 0 N (by omega) (by omega) ?_
    rw [ip_ph hI _ _ _ _ (by omega)]
    simp only [forall_eq, nI_1, Int32.add_zero, Nat.add_assoc]
    rw [sN_s] at hr
    unfold er at hr
    rcases hf : frs (ph s x (nI (a + i))) (s.2.2 0) 0 with _ | p
    · simp only [hf, Nat.add_zero] at hr
      simp only [vo, true_implies, false_implies, implies_true, not_true_eq_false, not_false_eq_true, not_true, not_false_iff, and_true, true_and, and_false, false_and, true_or, or_true, i1n0, i0e0]
      exact hr
    · simp only [hf] at hr
      obtain ⟨-, hp1, hp2⟩ := frs_some hf
      obtain ⟨⟨a1, a2, a3, a4, a5⟩, p1, p2, p3, p4⟩ := e5 p (by omega)
      have hv3 := wi_in (M := 2) (m := 3) (by decide) p1 (by decide) (by decide)
      have hv : vp_in (nI p) 30 := vp_in_nI (by omega) (by decide)
      obtain ⟨r1, r2⟩ := rt_e hY p
      simp only [vo, n9 p (by omega), hv, nI_clamp (show p < 2 ^ 31 by omega), ← a1, hv3, ← hY.1, r2, nI_add, true_implies, false_implies, implies_true, not_true_eq_false, not_false_eq_true, not_true, not_false_iff, and_true, true_and, and_false, false_and, true_or, or_true, i1n0, i0e0]
      exact hr
theorem pay_sw {x4 : Int32} {A0 A1 A2 A3 A4 B : Prop} (h : wi x4 0 4) (g : (x4 = 0 → A0) ∧ (¬ x4 = 0 → (x4 = 1 → A1) ∧ (¬ x4 = 1 → (x4 = 2 → A2) ∧ (¬ x4 = 2 → (x4 = 3 → A3) ∧ (¬ x4 = 3 → A4))))) : (x4 = 0 → A0) ∧ (¬ x4 = 0 → (x4 = 1 → A1) ∧ (¬ x4 = 1 → (x4 = 2 → A2) ∧ (¬ x4 = 2 → (x4 = 3 → A3) ∧ (¬ x4 = 3 → (x4 = 4 → A4) ∧ (¬ x4 = 4 → B))))) := by
  obtain ⟨j, hj, rfl⟩ := wi_n (n := 4) (by decide) h
  refine ⟨g.1, fun c0 => ⟨(g.2 c0).1, fun c1 => ⟨((g.2 c0).2 c1).1, fun c2 => ⟨(((g.2 c0).2 c1).2 c2).1, fun c3 => ⟨fun _ => (((g.2 c0).2 c1).2 c2).2 c3, fun c4 => ?_⟩⟩⟩⟩⟩
  exfalso
  have : j = 0 ∨ j = 1 ∨ j = 2 ∨ j = 3 ∨ j = 4 := by omega
  rcases this with h | h | h | h | h <;> subst h
  · exact c0 rfl
  · exact c1 rfl
  · exact c2 rfl
  · exact c3 rfl
  · exact c4 rfl
set_option maxHeartbeats 1000000 in
theorem cs_pay {N k : Nat} {s : Sx} (hN : 20000 ≤ N) (hk : k ≤ 600) (hI : Inv k s) (x1 : Int32) (x2 : Int32) (x3 : Int32) (x4 : Int32) (P : Int32 → Int32 → Sx → Prop) (hP : ∀ r s', Inv (k + 1) s' → P r r s') : w_X11_pay N x1 x2 x3 x4 s (fun r s1 => w_X12_pay N x1 x2 x3 x4 s1 (fun r2 s2 => P r r2 s2)) := by
  have hI2 := hI.up
  obtain ⟨hIC, hIM, hIP, hIZ, hIR, hIY, hIW, hIT, hIF, hIL, hIS⟩ := id hI
  obtain ⟨m1, m2⟩ := id hIM
  obtain ⟨e1, e2, e3, e4, e5, e6, e7, e8, e9, e10, e11, e12⟩ := id hIY
  simp only [w_X11_pay, w_X11_isMan, areD_c, wi_eq, true_implies, false_implies, implies_true, not_true_eq_false, not_false_eq_true, not_true, not_false_iff, and_true, true_and, and_false, false_and, true_or, or_true, i1n0, i0e0]
  by_cases h1 : wi x1 0 (s.1 0 0 1 - 1)
  case neg =>
    simp only [w_X12_pay, mman_eq, m2, ← m1, h1, true_implies, false_implies, implies_true, not_true_eq_false, not_false_eq_true, not_true, not_false_iff, and_true, true_and, and_false, false_and, true_or, or_true, i1n0, i0e0]
    exact hP _ _ hI2
  by_cases h2 : wi x2 0 399 ∧ wi x3 0 399 ∧ x2 ≤ x3
  case neg =>
    simp only [w_X12_pay, areD_m, mman_eq, m2, ← m1, h1, h2, true_implies, false_implies, implies_true, not_true_eq_false, not_false_eq_true, not_true, not_false_iff, and_true, true_and, and_false, false_and, true_or, or_true, i1n0, i0e0]
    exact hP _ _ hI2
  simp only [h1, h2, true_implies, false_implies, implies_true, not_true_eq_false, not_false_eq_true, not_true, not_false_iff, and_true, true_and, and_false, false_and, true_or, or_true, i1n0, i0e0]
  obtain ⟨a, ha, rfl⟩ := wi_n (n := 399) (by decide) h2.1
  obtain ⟨b, hb, rfl⟩ := wi_n (n := 399) (by decide) h2.2.1
  have hab : a ≤ b := by have := h2.2.2; rw [nle (by omega) (by omega)] at this; exact this
  have hpe := pay_eq (x := x1) hIP hab hb
  have hle : sN (fun d => er s x1 (a + d)) (b - a + 1) ≤ (b - a + 1) * 999 := sN_le (fun d => er_le hIY _) _
  obtain ⟨d, hd, ed⟩ := wi_n (n := 100) (by decide) (wi_m e5 (by decide) (by decide) : wi (s.1 0 9 2) 0 100)
  rw [ed] at e6
  obtain ⟨c, hc, ec⟩ := wi_n (n := d) (by omega) e6
  have hd1 : 1 ≤ d := by
    have := (wi_i.mp e5).1
    rw [ed, nI_toInt (by omega), show (1 : Int32).toInt = 1 from by decide] at this
    omega
  obtain ⟨f, hf, ef⟩ := wi_n (n := 30) (by decide) e8
  unfold w_X4_earnedOn
  have h0 := ec_loop (N := N) (a := a) (b := b) (np := s.2.2 0) (s := s) (x := x1) (post := fun r_8 s_7 => w_X4_sentHome N r_8 s_7 (fun r_10 s_9 => w_X4_finesOf N x1 (nI a) (nI b) s_9 (fun r_12 s_11 => w_J9_min_7cf53 N r_12 (r_8 - r_10) s_11 (fun r_14 s_13 => (x4 = 0 → w_X12_pay N x1 (nI a) (nI b) x4 s_13 (fun r2 s2 => P r_8 r2 s2)) ∧ (¬ (x4 = 0) → (x4 = 1 → w_X12_pay N x1 (nI a) (nI b) x4 s_13 (fun r2 s2 => P r_10 r2 s2)) ∧ (¬ (x4 = 1) → (x4 = 2 → w_X12_pay N x1 (nI a) (nI b) x4 s_13 (fun r2 s2 => P r_14 r2 s2)) ∧ (¬ (x4 = 2) → (x4 = 3 → w_X12_pay N x1 (nI a) (nI b) x4 s_13 (fun r2 s2 => P ((r_8 - r_10) - r_14) r2 s2)) ∧ (¬ (x4 = 3) → (x4 = 4 → w_X12_pay N x1 (nI a) (nI b) x4 s_13 (fun r2 s2 => P (r_12 - r_14) r2 s2)) ∧ (¬ (x4 = 4) → w_X12_pay N x1 (nI a) (nI b) x4 s_13 (fun r2 s2 => P (-2) r2 s2)))))))))) hIP hIY rfl ha hb
  refine h0 ?_ 30 0 N rfl (by omega)
  rw [← hpe]
  generalize hE : sN (fun d => er s x1 (a + d)) (b - a + 1) = E at hle
  have hE2 : E ≤ 399600 := by omega
  have hEc : E * c ≤ E * 100 := Nat.mul_le_mul_left _ (by omega)
  have hnz : ¬ lN d = 0 := by show ¬ lN d = lN 0; rw [pk_lEQ (by omega) (by decide)]; omega
  have hq : (nI E * s.1 0 9 1) / s.1 0 9 2 = nI (E * c / d) := by
    rw [ec, ed, pk_mul, pk_div (by omega) (by omega) (by omega)]
  simp only [w_X4_sentHome, w_X11_quotient, ec, ed, nI_l (show E < 2 ^ 31 by omega), nI_l (show c < 2 ^ 31 by omega), nI_l (show d < 2 ^ 31 by omega), lN_mul, lg_cmp_eq, hnz, true_implies, false_implies, implies_true, not_true_eq_false, not_false_eq_true, not_true, not_false_iff, and_true, true_and, and_false, false_and, true_or, or_true, i1n0, i0e0, pk_lDiv (show E * c < 2 ^ 63 by omega) (show 0 < d by omega) (show d < 2 ^ 63 by omega), lN_i]
  refine fi_c ef hf ?_ f 0 N (by omega) (by omega)
  have hmod : ∀ (Q : Int32 → Sx → Prop), (wi x4 0 4 → w_X12_pay_183 N Q s x4 (nI E) (fnn s x1 (nI a) (nI b) f) (nI (E * c / d)) (if nI E - nI (E * c / d) < fnn s x1 (nI a) (nI b) f then nI E - nI (E * c / d) else fnn s x1 (nI a) (nI b) f)) → (¬ wi x4 0 4 → Q (-2) s) → w_X12_pay N x1 (nI a) (nI b) x4 s Q := by
    intro Q g1 g2
    simp only [w_X12_pay, areD_m, wm_eq, mman_eq, m2, ← m1, h1, h2, true_implies, false_implies, implies_true, not_true_eq_false, not_false_eq_true, not_true, not_false_iff, and_true, true_and, and_false, false_and, true_or, or_true, i1n0, i0e0]
    by_cases h4 : wi x4 0 4
    · simp only [h4, true_implies, false_implies, implies_true, not_true_eq_false, not_false_eq_true, not_true, not_false_iff, and_true, true_and, and_false, false_and, true_or, or_true, i1n0, i0e0]
      have := em_loop (N := N) (x := x1) (x4 := x4) (post := Q) hN hIP hIY hab hb
      refine this ?_ (b - a + 1) 0 N (by omega) (by omega)
      rw [hE]
      refine fi_m hIY ef hf ?_ f 0 N (by omega) (by omega)
      rw [hq]
      exact g1 h4
    · simp only [h4, true_implies, false_implies, implies_true, not_true_eq_false, not_false_eq_true, not_true, not_false_iff, and_true, true_and, and_false, false_and, true_or, or_true, i1n0, i0e0]
      exact g2 h4
  by_cases h4 : wi x4 0 4
  · have fin : ∀ (m : Int32), m = (if nI E - nI (E * c / d) < fnn s x1 (nI a) (nI b) f then nI E - nI (E * c / d) else fnn s x1 (nI a) (nI b) f) → (x4 = 0 → w_X12_pay N x1 (nI a) (nI b) x4 s (fun r2 s2 => P (nI E) r2 s2)) ∧ (¬ (x4 = 0) → (x4 = 1 → w_X12_pay N x1 (nI a) (nI b) x4 s (fun r2 s2 => P (nI (E * c / d)) r2 s2)) ∧ (¬ (x4 = 1) → (x4 = 2 → w_X12_pay N x1 (nI a) (nI b) x4 s (fun r2 s2 => P m r2 s2)) ∧ (¬ (x4 = 2) → (x4 = 3 → w_X12_pay N x1 (nI a) (nI b) x4 s (fun r2 s2 => P ((nI E - nI (E * c / d)) - m) r2 s2)) ∧ (¬ (x4 = 3) → (x4 = 4 → w_X12_pay N x1 (nI a) (nI b) x4 s (fun r2 s2 => P (fnn s x1 (nI a) (nI b) f - m) r2 s2)) ∧ (¬ (x4 = 4) → w_X12_pay N x1 (nI a) (nI b) x4 s (fun r2 s2 => P (-2) r2 s2)))))) := by
      intro m hm
      refine pay_sw h4 ⟨fun c0 => ?_, fun c0 => ⟨fun c1 => ?_, fun c1 => ⟨fun c2 => ?_, fun c2 => ⟨fun c3 => ?_, fun c3 => ?_⟩⟩⟩⟩
      · refine hmod _ (fun _ => ?_) (fun q => absurd h4 q)
        rw [← hm]
        simp only [w_X12_pay_183, c0, true_implies, false_implies, implies_true, not_true_eq_false, not_false_eq_true, not_true, not_false_iff, and_true, true_and, and_false, false_and, true_or, or_true, i1n0, i0e0]
        exact hP _ _ hI2
      · refine hmod _ (fun _ => ?_) (fun q => absurd h4 q)
        rw [← hm]
        simp only [w_X12_pay_183, c1, true_implies, false_implies, implies_true, not_true_eq_false, not_false_eq_true, not_true, not_false_iff, and_true, true_and, and_false, false_and, true_or, or_true, i1n0, i0e0]
        exact hP _ _ hI2
      · refine hmod _ (fun _ => ?_) (fun q => absurd h4 q)
        rw [← hm]
        simp only [w_X12_pay_183, c0, c1, c2, true_implies, false_implies, implies_true, not_true_eq_false, not_false_eq_true, not_true, not_false_iff, and_true, true_and, and_false, false_and, true_or, or_true, i1n0, i0e0, show ¬ (2 : Int32) = 0 by decide, show ¬ (2 : Int32) = 1 by decide]
        exact hP _ _ hI2
      · refine hmod _ (fun _ => ?_) (fun q => absurd h4 q)
        rw [← hm]
        simp only [w_X12_pay_183, c3, true_implies, false_implies, implies_true, not_true_eq_false, not_false_eq_true, not_true, not_false_iff, and_true, true_and, and_false, false_and, true_or, or_true, i1n0, i0e0, show ¬ (3 : Int32) = 0 by decide, show ¬ (3 : Int32) = 1 by decide, show ¬ (3 : Int32) = 2 by decide]
        exact hP _ _ hI2
      · refine hmod _ (fun _ => ?_) (fun q => absurd h4 q)
        rw [← hm]
        simp only [w_X12_pay_183, c0, c1, c2, c3, true_implies, false_implies, implies_true, not_true_eq_false, not_false_eq_true, not_true, not_false_iff, and_true, true_and, and_false, false_and, true_or, or_true, i1n0, i0e0]
        exact hP _ _ hI2
    unfold w_J9_min_7cf53
    by_cases q : nI E - nI (E * c / d) < fnn s x1 (nI a) (nI b) f
    · simp only [q, true_implies, false_implies, implies_true, not_true_eq_false, not_false_eq_true, not_true, not_false_iff, and_true, true_and, and_false, false_and, true_or, or_true, i1n0, i0e0]
      exact fin _ (if_pos q).symm
    · simp only [q, true_implies, false_implies, implies_true, not_true_eq_false, not_false_eq_true, not_true, not_false_iff, and_true, true_and, and_false, false_and, true_or, or_true, i1n0, i0e0]
      exact fin _ (if_neg q).symm
  · have fin : ∀ (m : Int32), (x4 = 0 → w_X12_pay N x1 (nI a) (nI b) x4 s (fun r2 s2 => P (nI E) r2 s2)) ∧ (¬ (x4 = 0) → (x4 = 1 → w_X12_pay N x1 (nI a) (nI b) x4 s (fun r2 s2 => P (nI (E * c / d)) r2 s2)) ∧ (¬ (x4 = 1) → (x4 = 2 → w_X12_pay N x1 (nI a) (nI b) x4 s (fun r2 s2 => P m r2 s2)) ∧ (¬ (x4 = 2) → (x4 = 3 → w_X12_pay N x1 (nI a) (nI b) x4 s (fun r2 s2 => P ((nI E - nI (E * c / d)) - m) r2 s2)) ∧ (¬ (x4 = 3) → (x4 = 4 → w_X12_pay N x1 (nI a) (nI b) x4 s (fun r2 s2 => P (fnn s x1 (nI a) (nI b) f - m) r2 s2)) ∧ (¬ (x4 = 4) → w_X12_pay N x1 (nI a) (nI b) x4 s (fun r2 s2 => P (-2) r2 s2)))))) := by
      intro m
      refine ⟨fun e => absurd (by rw [e]; exact ⟨by decide, by decide⟩) h4, fun _ => ⟨fun e => absurd (by rw [e]; exact ⟨by decide, by decide⟩) h4, fun _ => ⟨fun e => absurd (by rw [e]; exact ⟨by decide, by decide⟩) h4, fun _ => ⟨fun e => absurd (by rw [e]; exact ⟨by decide, by decide⟩) h4, fun _ => ⟨fun e => absurd (by rw [e]; exact ⟨by decide, by decide⟩) h4, fun _ => ?_⟩⟩⟩⟩⟩
      exact hmod _ (fun q => absurd q h4) (fun _ => hP _ _ hI2)
    unfold w_J9_min_7cf53
    exact ⟨fun _ => fin _, fun _ => fin _⟩
