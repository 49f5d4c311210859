/-! what is told of works -/
theorem ceil_ {X B : Nat} (hB : 0 < B) : (X + B - 1) / B = if X % B = 0 then X / B else X / B + 1 := by
  have h := Nat.div_add_mod X B
  have hl := Nat.mod_lt X hB
  rw [Nat.mul_comm] at h
  generalize X / B = q at h ⊢
  generalize X % B = r at h hl ⊢
  by_cases e : r = 0
  · rw [if_pos e]
    apply Nat.div_eq_of_lt_le
    · omega
    · rw [Nat.succ_mul]; omega
  · rw [if_neg e]
    apply Nat.div_eq_of_lt_le
    · rw [Nat.succ_mul]; omega
    · rw [Nat.succ_mul, Nat.succ_mul]; omega
theorem ceil_le {X B : Nat} (hB : 0 < B) : (X + B - 1) / B ≤ X := by
  have : (X + B - 1) / B < X + 1 := by
    rw [Nat.div_lt_iff_lt_mul hB, Nat.succ_mul]
    have := Nat.le_mul_of_pos_right X hB
    omega
  omega
def on_ (s : Sx) (l : Nat) : Nat := (s.1 0 17 l).toNatClampNeg
def by_ (s : Sx) (l : Nat) : Nat := (s.1 0 18 l).toNatClampNeg
def td (s : Sx) (w : Nat) : Nat → Nat
  | 0 => (s.1 3 w 7).toNatClampNeg
  | l + 1 => (td s w l * on_ s l + by_ s l - 1) / by_ s l
theorem td_s (s : Sx) (w l : Nat) : td s w (l + 1) = (td s w l * on_ s l + by_ s l - 1) / by_ s l := rfl
theorem on_e {k : Nat} {s : Sx} (h : IW k s) (l : Nat) : on_ s l ≤ 99 ∧ s.1 0 17 l = nI (on_ s l) := by
  obtain ⟨e1, e2, e3, e4, e5, e6, e7, e8, e9, e10, e11, e12, e13, e14, e15, e16⟩ := h
  obtain ⟨a, ha, ea⟩ := wi_n (n := 99) (by decide) (e15 l)
  unfold on_
  rw [ea, nI_clamp (by omega)]
  exact ⟨ha, rfl⟩
theorem by_e {k : Nat} {s : Sx} (h : IW k s) {l : Nat} (hl : l < 5) : 1 ≤ by_ s l ∧ by_ s l ≤ 99 ∧ s.1 0 18 l = nI (by_ s l) := by
  obtain ⟨e1, e2, e3, e4, e5, e6, e7, e8, e9, e10, e11, e12, e13, e14, e15, e16⟩ := h
  have hb := e16 l hl
  obtain ⟨a, ha, ea⟩ := wi_n (n := 99) (by decide) (wi_m hb (by decide) (by decide) : wi (s.1 0 18 l) 0 99)
  unfold by_
  rw [ea] at hb ⊢
  rw [nI_clamp (by omega)]
  have := (wi_i.mp hb).1
  rw [nI_toInt (by omega), show (1 : Int32).toInt = 1 from by decide] at this
  exact ⟨by omega, ha, rfl⟩
theorem td_0 {k : Nat} {s : Sx} (hk : k ≤ 600) (h : IW k s) {w : Nat} (hw : w < s.2.2 4) : td s w 0 ≤ 48000 ∧ s.1 3 w 7 = nI (td s w 0) := by
  obtain ⟨e1, e2, e3, e4, e5, e6, e7, e8, e9, e10, e11, e12, e13, e14, e15, e16⟩ := h
  obtain ⟨-, b1, b2, b3, b4, b5, b6⟩ := e5 w hw
  obtain ⟨x, hx, ex⟩ := nI_of (x := s.1 3 w 7) (by rw [lt_, show (0 : Int32).toInt = 0 from by decide]; omega)
  show (s.1 3 w 7).toNatClampNeg ≤ 48000 ∧ s.1 3 w 7 = nI (s.1 3 w 7).toNatClampNeg
  rw [ex] at b6 ⊢
  rw [nI_toInt hx] at b6
  rw [nI_clamp hx]
  exact ⟨by omega, rfl⟩
theorem td_le {k : Nat} {s : Sx} (hk : k ≤ 600) (h : IW k s) {w : Nat} (hw : w < s.2.2 4) : ∀ l, l ≤ 5 → td s w l ≤ 48000 * 99 ^ l := by
  intro l
  induction l with
  | zero => intro _; have := (td_0 hk h hw).1; omega
  | succ l ih =>
    intro hl
    have i1 := ih (by omega)
    obtain ⟨b1, b2, -⟩ := by_e h (l := l) (by omega)
    obtain ⟨o1, -⟩ := on_e h l
    rw [td_s]
    refine Nat.le_trans (ceil_le b1) ?_
    rw [Nat.pow_succ, ← Nat.mul_assoc]
    exact Nat.mul_le_mul i1 o1
theorem td_b {k : Nat} {s : Sx} (hk : k ≤ 600) (h : IW k s) {w : Nat} (hw : w < s.2.2 4) {l : Nat} (hl : l ≤ 5) : td s w l < 2 ^ 50 := by
  have h1 := td_le hk h hw l hl
  have h2 : 99 ^ l ≤ 99 ^ 5 := Nat.pow_le_pow_right (by decide) hl
  have h3 : (99 : Nat) ^ 5 = 9509900499 := by decide
  omega
theorem ton_eq {N k w l : Nat} {s : Sx} {post : Int64 → Sx → Prop} (hk : k ≤ 600) (h : IW k s) (hw : w < s.2.2 4) (hl : l < 5) (hp : post (lN (td s w (l + 1))) s) : w_X10_toldOnBy N (nI l) (lN (td s w l)) s post := by
  have hv : vp_in (nI l) 5 := vp_in_nI hl (by decide)
  obtain ⟨b1, b2, b3⟩ := by_e h hl
  obtain ⟨o1, o2⟩ := on_e h l
  have hn : ¬ lN (by_ s l) = lN 0 := by rw [pk_lEQ (by omega) (by decide)]; omega
  have hn0 : ¬ lN (by_ s l) = 0 := hn
  have ht := td_b hk h hw (l := l) (by omega)
  have hm : td s w l * on_ s l ≤ td s w l * 99 := Nat.mul_le_mul_left _ o1
  simp only [w_X10_toldOnBy, w_X11_quotient, hv, true_implies, false_implies, implies_true, not_true_eq_false, not_false_eq_true, not_true, not_false_iff, and_true, true_and, and_false, false_and, true_or, or_true, i1n0, i0e0, nI_clamp (show l < 2 ^ 31 by omega), b3, o2, nI_l (show by_ s l < 2 ^ 31 by omega), nI_l (show on_ s l < 2 ^ 31 by omega), lN_mul, lN_add, show (1 : Int64) = lN 1 from rfl, lN_sub (show 1 ≤ td s w l * on_ s l + by_ s l by omega), lg_cmp_eq, hn0]
  rw [pk_lDiv (by omega) (by omega) (by omega), ← td_s]
  exact hp
theorem tb_loop {N k w e : Nat} {s : Sx} {x2 : Int32} {post : Int64 → Sx → Prop} (hk : k ≤ 600) (h : IW k s) (hw : w < s.2.2 4) (he : e ≤ 5) (hx : ∀ i, i ≤ 5 → (x2 < nI i) = (e ≤ i)) (hp : post (lN (td s w e)) s) : ∀ m i fuel, i + m = e → m < fuel → w_X10_toldBehind_9 N w post fuel s x2 (lN (td s w i)) (nI i) := by
  intro m
  induction m with
  | zero =>
    intro i fuel e1 e2
    obtain ⟨f, rfl⟩ : ∃ f, fuel = f + 1 := ⟨fuel - 1, by omega⟩
    simp only [w_X10_toldBehind_9, hx i (by omega), show e ≤ i by omega, true_implies, false_implies, implies_true, not_true_eq_false, not_false_eq_true, not_true, not_false_iff, and_true, true_and, and_false, false_and, true_or, or_true, i1n0, i0e0]
    rw [show i = e by omega]
    exact hp
  | succ m ih =>
    intro i fuel e1 e2
    obtain ⟨f, rfl⟩ : ∃ f, fuel = f + 1 := ⟨fuel - 1, by omega⟩
    simp only [w_X10_toldBehind_9, hx i (by omega), show ¬ e ≤ i by omega, true_implies, false_implies, implies_true, not_true_eq_false, not_false_eq_true, not_true, not_false_iff, and_true, true_and, and_false, false_and, true_or, or_true, i1n0, i0e0]
    refine ton_eq hk h hw (by omega) ?_
    simp only [forall_eq, nI_1]
    exact ih (i + 1) f (by omega) (by omega)
theorem tm_loop {N k w e : Nat} {s : Sx} {x2 : Int32} {post : Int64 → Sx → Prop} (hk : k ≤ 600) (h : IW k s) (hw : w < s.2.2 4) (he : e ≤ 5) (hx : ∀ i, i ≤ 5 → (x2 < nI i) = (e ≤ i)) (hp : post (lN (td s w e)) s) : ∀ m i fuel, i + m = e → m < fuel → w_X12_toldBy_11 N post fuel s x2 (lN (td s w i)) (nI i) := by
  intro m
  induction m with
  | zero =>
    intro i fuel e1 e2
    obtain ⟨f, rfl⟩ : ∃ f, fuel = f + 1 := ⟨fuel - 1, by omega⟩
    simp only [w_X12_toldBy_11, hx i (by omega), show e ≤ i by omega, true_implies, false_implies, implies_true, not_true_eq_false, not_false_eq_true, not_true, not_false_iff, and_true, true_and, and_false, false_and, true_or, or_true, i1n0, i0e0]
    rw [show i = e by omega]
    exact hp
  | succ m ih =>
    intro i fuel e1 e2
    obtain ⟨f, rfl⟩ : ∃ f, fuel = f + 1 := ⟨fuel - 1, by omega⟩
    have hr := ih (i + 1) f (by omega) (by omega)
    have hv : vp_in (nI i) 5 := vp_in_nI (by omega) (by decide)
    obtain ⟨b1, b2, b3⟩ := by_e h (l := i) (by omega)
    obtain ⟨o1, o2⟩ := on_e h i
    have hn : ¬ lN (by_ s i) = lN 0 := by rw [pk_lEQ (by omega) (by decide)]; omega
    have hn0 : ¬ lN (by_ s i) = 0 := hn
    have ht := td_b hk h hw (l := i) (by omega)
    have hm : td s w i * on_ s i ≤ td s w i * 99 := Nat.mul_le_mul_left _ o1
    have h13 := h.2.2.2.2.2.2.2.2.2.2.2.2
    have hmod : td s w i * on_ s i % by_ s i < 2 ^ 63 := by have := Nat.mod_lt (td s w i * on_ s i) (show 0 < by_ s i by omega); omega
    rw [td_s, ceil_ (by omega)] at hr
    simp only [w_X12_toldBy_11, hx i (by omega), show ¬ e ≤ i by omega, hv, true_implies, false_implies, implies_true, not_true_eq_false, not_false_eq_true, not_true, not_false_iff, and_true, true_and, and_false, false_and, true_or, or_true, i1n0, i0e0, nI_clamp (show i < 2 ^ 31 by omega), ← h13.1, ← h13.2.1, b3, o2, nI_l (show by_ s i < 2 ^ 31 by omega), nI_l (show on_ s i < 2 ^ 31 by omega), lN_mul, forall_eq, nI_1, hn0, pk_lRem (show td s w i * on_ s i < 2 ^ 63 by omega) (show 0 < by_ s i by omega) (show by_ s i < 2 ^ 63 by omega), pk_lDiv (show td s w i * on_ s i < 2 ^ 63 by omega) (show 0 < by_ s i by omega) (show by_ s i < 2 ^ 63 by omega), lg_cmp_le, lN_1, Int64.add_zero]
    have hrem : lN (td s w i * on_ s i) - lN (td s w i * on_ s i / by_ s i * by_ s i) = lN (td s w i * on_ s i % by_ s i) := by
      rw [lN_sub (Nat.div_mul_le_self _ _)]
      congr 1
      have := Nat.div_add_mod (td s w i * on_ s i) (by_ s i)
      rw [Nat.mul_comm (by_ s i)] at this
      omega
    rw [hrem]
    rw [show ((lN (td s w i * on_ s i % by_ s i)) ≤ 0) = (td s w i * on_ s i % by_ s i ≤ 0) from propext (pk_lLE (b := 0) hmod (by decide))]
    by_cases e0 : td s w i * on_ s i % by_ s i = 0
    · rw [if_pos e0] at hr
      simp only [e0, Nat.le_refl, true_implies, false_implies, implies_true, not_true_eq_false, not_false_eq_true, not_true, not_false_iff, and_true, true_and, and_false, false_and, true_or, or_true, i1n0, i0e0]
      exact hr
    · rw [if_neg e0] at hr
      simp only [show ¬ td s w i * on_ s i % by_ s i ≤ 0 by omega, true_implies, false_implies, implies_true, not_true_eq_false, not_false_eq_true, not_true, not_false_iff, and_true, true_and, and_false, false_and, true_or, or_true, i1n0, i0e0]
      exact hr
theorem tby_eq {N k w e : Nat} {s : Sx} {x2 : Int32} {post : Int64 → Sx → Prop} (hN : 20000 ≤ N) (hk : k ≤ 600) (h : IW k s) (hw : w < s.2.2 4) (he : e ≤ 5) (hx : ∀ i, i ≤ 5 → (x2 < nI i) = (e ≤ i)) (hp : post (lN (td s w e)) s) : w_X12_toldBy N (nI w) x2 s post := by
  obtain ⟨t1, t2⟩ := td_0 hk h hw
  have h4 := h.2.2.2.1
  have hv : vp_in (nI w) 8 := vp_in_nI (by omega) (by decide)
  obtain ⟨⟨a1, a2, a3, a4, a5, a6, a7, a8⟩, -⟩ := h.2.2.2.2.1 w hw
  simp only [w_X12_toldBy, hv, forall_eq, true_implies, false_implies, implies_true, not_true_eq_false, not_false_eq_true, not_true, not_false_iff, and_true, true_and, and_false, false_and, true_or, or_true, i1n0, i0e0, nI_clamp (show w < 2 ^ 31 by omega), ← a8]
  rw [t2, nI_l (by omega)]
  exact tm_loop hk h hw he hx hp e 0 N (by omega) (by omega)
theorem x2_e {x : Int32} (h : wi x (-1) 4) : ∃ e : Nat, e ≤ 5 ∧ ∀ i, i ≤ 5 → (x < nI i) = (e ≤ i) := by
  have h1 := wi_i.mp h
  rw [show (-1 : Int32).toInt = -1 from by decide, show (4 : Int32).toInt = 4 from by decide] at h1
  refine ⟨(x.toInt + 1).toNat, by omega, fun i hi => ?_⟩
  rw [lt_, nI_toInt (by omega)]
  exact propext ⟨fun q => by omega, fun q => by omega⟩
theorem cs_told {N k : Nat} {s : Sx} (hN : 20000 ≤ N) (hk : k ≤ 600) (hI : Inv k s) (x1 : Int32) (x2 : Int32) (P : Int64 → Int64 → Sx → Prop) (hP : ∀ r s', Inv (k + 1) s' → P r r s') : w_X11_told N x1 x2 s (fun r s1 => w_X12_told N x1 x2 s1 (fun r2 s2 => P r r2 s2)) := by
  have hI2 := hI.up
  obtain ⟨hIC, hIM, hIP, hIZ, hIR, hIY, hIW, hIT, hIF, hIL, hIS⟩ := id hI
  obtain ⟨e1, e2, e3, e4, e5, er⟩ := id hIW
  have hw : wi (nI (s.2.2 4)) 0 8 := wi_nI (M := 8) e4 (by decide)
  simp only [w_X11_told, workAt_eq, e3, e4, w_X10_toldBehind, wi_eq, true_implies, false_implies, implies_true, not_true_eq_false, not_false_eq_true, not_true, not_false_iff, and_true, true_and, and_false, false_and, true_or, or_true, i1n0, i0e0, so_n, so_s, no_s, forall_eq]
  simp only [w_X12_told, wm_eq, true_implies, false_implies, implies_true, not_true_eq_false, not_false_eq_true, not_true, not_false_iff, and_true, true_and, and_false, false_and, true_or, or_true, i1n0, i0e0, mwork_eq, ← e1, e2, hw]
  by_cases h1 : wi x1 0 (nI (s.2.2 4) - 1)
  case neg => simp only [h1, true_implies, false_implies, implies_true, not_true_eq_false, not_false_eq_true, not_true, not_false_iff, and_true, true_and, and_false, false_and, true_or, or_true, i1n0, i0e0]; exact hP _ _ hI2
  obtain ⟨j, rfl, hj1, hj2, hj3, hj4⟩ := inC (M := 8) (by decide) hw h1
  rw [nI_clamp (by omega)] at hj1
  rw [hj4]
  by_cases h2 : wi x2 (-1) 4
  case neg => simp only [h1, h2, hj1, true_implies, false_implies, implies_true, not_true_eq_false, not_false_eq_true, not_true, not_false_iff, and_true, true_and, and_false, false_and, true_or, or_true, i1n0, i0e0, mwork_eq, ← e1, e2, hw]; exact hP _ _ hI2
  obtain ⟨e, he, hx⟩ := x2_e h2
  obtain ⟨t1, t2⟩ := td_0 hk hIW hj1
  simp only [h1, h2, hj1, true_implies, false_implies, implies_true, not_true_eq_false, not_false_eq_true, not_true, not_false_iff, and_true, true_and, and_false, false_and, true_or, or_true, i1n0, i0e0]
  rw [t2, nI_l (by omega)]
  refine tb_loop hk hIW hj1 he hx ?_ e 0 N (by omega) (by omega)
  have hw2 : wi (s.1 6 0 35) 0 8 := by rw [← e1, e2]; exact hw
  have h12 : wi (nI j) 0 (s.1 6 0 35 - 1) := by rw [← e1, e2]; exact h1
  simp only [mwork_eq hw2, h12, h2, true_implies, false_implies, implies_true, not_true_eq_false, not_false_eq_true, not_true, not_false_iff, and_true, true_and, and_false, false_and, true_or, or_true, i1n0, i0e0]
  refine tby_eq hN hk hIW hj1 he hx ?_
  exact hP _ _ hI2
def gr (s : Sx) (w : Nat) : Nat → Int32 × Int64
  | 0 => ((-9), 0)
  | l + 1 => if lg_cmp (lN (td s w (l + 1)) - lN (td s w l)) (gr s w l).2 ≤ 0 then gr s w l else (nI l, lN (td s w (l + 1)) - lN (td s w l))
theorem gr_y {s : Sx} {w l : Nat} (h : lg_cmp (lN (td s w (l + 1)) - lN (td s w l)) (gr s w l).2 ≤ 0) : gr s w (l + 1) = gr s w l := if_pos h
theorem gr_n {s : Sx} {w l : Nat} (h : ¬ lg_cmp (lN (td s w (l + 1)) - lN (td s w l)) (gr s w l).2 ≤ 0) : gr s w (l + 1) = (nI l, lN (td s w (l + 1)) - lN (td s w l)) := if_neg h
theorem gc_loop {N k w : Nat} {s : Sx} {post : Int32 → Sx → Prop} (hk : k ≤ 600) (h : IW k s) (hw : w < s.2.2 4) (hp : post (gr s w 5).1 s) : ∀ m i fuel, i + m = 5 → m < fuel → w_X10_greatestGrowth_15 N w post fuel s (gr s w i).1 (gr s w i).2 (lN (td s w i)) (nI i) := by
  intro m
  induction m with
  | zero =>
    intro i fuel e1 e2
    obtain ⟨f, rfl⟩ : ∃ f, fuel = f + 1 := ⟨fuel - 1, by omega⟩
    have : i = 5 := by omega
    subst this
    simp only [w_X10_greatestGrowth_15, show (5 : Int32) = nI 5 from rfl, nle (show 5 < 2 ^ 31 by omega) (show 5 < 2 ^ 31 by omega), Nat.le_refl, true_implies, false_implies, implies_true, not_true_eq_false, not_false_eq_true, not_true, not_false_iff, and_true, true_and, and_false, false_and, true_or, or_true, i1n0, i0e0]
    exact hp
  | succ m ih =>
    intro i fuel e1 e2
    obtain ⟨f, rfl⟩ : ∃ f, fuel = f + 1 := ⟨fuel - 1, by omega⟩
    have hr := ih (i + 1) f (by omega) (by omega)
    simp only [w_X10_greatestGrowth_15, show (5 : Int32) = nI 5 from rfl, nle (show 5 < 2 ^ 31 by omega) (show i < 2 ^ 31 by omega), show ¬ 5 ≤ i by omega, true_implies, false_implies, implies_true, not_true_eq_false, not_false_eq_true, not_true, not_false_iff, and_true, true_and, and_false, false_and, true_or, or_true, i1n0, i0e0]
    refine ton_eq hk h hw (by omega) ?_
    simp only [forall_eq, nI_1]
    by_cases c : lg_cmp (lN (td s w (i + 1)) - lN (td s w i)) (gr s w i).2 ≤ 0
    · rw [gr_y c] at hr
      simp only [c, true_implies, false_implies, implies_true, not_true_eq_false, not_false_eq_true, not_true, not_false_iff, and_true, true_and, and_false, false_and, true_or, or_true, i1n0, i0e0]
      exact hr
    · rw [gr_n c] at hr
      simp only [c, true_implies, false_implies, implies_true, not_true_eq_false, not_false_eq_true, not_true, not_false_iff, and_true, true_and, and_false, false_and, true_or, or_true, i1n0, i0e0]
      exact hr
theorem gm_loop {N k w : Nat} {s : Sx} {post : Int32 → Sx → Prop} (hN : 20000 ≤ N) (hk : k ≤ 600) (h : IW k s) (hw : w < s.2.2 4) (hp : post (gr s w 5).1 s) : ∀ m i fuel, i + m = 5 → m < fuel → w_X12_grew_18 N post fuel s (nI w) (gr s w i).1 (gr s w i).2 (nI i) := by
  intro m
  induction m with
  | zero =>
    intro i fuel e1 e2
    obtain ⟨f, rfl⟩ : ∃ f, fuel = f + 1 := ⟨fuel - 1, by omega⟩
    have : i = 5 := by omega
    subst this
    simp only [w_X12_grew_18, show (5 : Int32) = nI 5 from rfl, nle (show 5 < 2 ^ 31 by omega) (show 5 < 2 ^ 31 by omega), Nat.le_refl, true_implies, false_implies, implies_true, not_true_eq_false, not_false_eq_true, not_true, not_false_iff, and_true, true_and, and_false, false_and, true_or, or_true, i1n0, i0e0]
    exact hp
  | succ m ih =>
    intro i fuel e1 e2
    obtain ⟨f, rfl⟩ : ∃ f, fuel = f + 1 := ⟨fuel - 1, by omega⟩
    have hr := ih (i + 1) f (by omega) (by omega)
    simp only [w_X12_grew_18, show (5 : Int32) = nI 5 from rfl, nle (show 5 < 2 ^ 31 by omega) (show i < 2 ^ 31 by omega), show ¬ 5 ≤ i by omega, true_implies, false_implies, implies_true, not_true_eq_false, not_false_eq_true, not_true, not_false_iff, and_true, true_and, and_false, false_and, true_or, or_true, i1n0, i0e0]
    refine tby_eq (e := i + 1) hN hk h hw (by omega) (fun q hq => ?_) ?_
    · rw [nlt (by omega) (by omega)]
      exact propext ⟨fun q => by omega, fun q => by omega⟩
    refine tby_eq (e := i) hN hk h hw (by omega) (fun q hq => ?_) ?_
    · have hs : (nI i - 1).toInt = (i : Int) - 1 := by
        rw [show (1 : Int32) = nI 1 from rfl, pk_sub_toInt (by omega) (by omega)]; omega
      rw [lt_, hs, nI_toInt (by omega)]
      exact propext ⟨fun q => by omega, fun q => by omega⟩
    simp only [forall_eq, nI_1]
    by_cases c : lg_cmp (lN (td s w (i + 1)) - lN (td s w i)) (gr s w i).2 ≤ 0
    · rw [gr_y c] at hr
      simp only [c, true_implies, false_implies, implies_true, not_true_eq_false, not_false_eq_true, not_true, not_false_iff, and_true, true_and, and_false, false_and, true_or, or_true, i1n0, i0e0]
      exact hr
    · rw [gr_n c] at hr
      simp only [c, true_implies, false_implies, implies_true, not_true_eq_false, not_false_eq_true, not_true, not_false_iff, and_true, true_and, and_false, false_and, true_or, or_true, i1n0, i0e0]
      exact hr
theorem cs_grew {N k : Nat} {s : Sx} (hN : 20000 ≤ N) (hk : k ≤ 600) (hI : Inv k s) (x1 : Int32) (P : Int32 → Int32 → Sx → Prop) (hP : ∀ r s', Inv (k + 1) s' → P r r s') : w_X11_grew N x1 s (fun r s1 => w_X12_grew N x1 s1 (fun r2 s2 => P r r2 s2)) := by
  have hI2 := hI.up
  obtain ⟨hIC, hIM, hIP, hIZ, hIR, hIY, hIW, hIT, hIF, hIL, hIS⟩ := id hI
  obtain ⟨e1, e2, e3, e4, e5, er⟩ := id hIW
  have hw : wi (nI (s.2.2 4)) 0 8 := wi_nI (M := 8) e4 (by decide)
  simp only [w_X11_grew, workAt_eq, e3, e4, w_X10_greatestGrowth, wi_eq, true_implies, false_implies, implies_true, not_true_eq_false, not_false_eq_true, not_true, not_false_iff, and_true, true_and, and_false, false_and, true_or, or_true, i1n0, i0e0, so_n, so_s, no_s, forall_eq]
  simp only [w_X12_grew, wm_eq, true_implies, false_implies, implies_true, not_true_eq_false, not_false_eq_true, not_true, not_false_iff, and_true, true_and, and_false, false_and, true_or, or_true, i1n0, i0e0, mwork_eq, ← e1, e2, hw]
  by_cases h1 : wi x1 0 (nI (s.2.2 4) - 1)
  case neg => simp only [h1, true_implies, false_implies, implies_true, not_true_eq_false, not_false_eq_true, not_true, not_false_iff, and_true, true_and, and_false, false_and, true_or, or_true, i1n0, i0e0]; exact hP _ _ hI2
  obtain ⟨j, rfl, hj1, hj2, hj3, hj4⟩ := inC (M := 8) (by decide) hw h1
  rw [nI_clamp (by omega)] at hj1
  rw [hj4]
  obtain ⟨t1, t2⟩ := td_0 hk hIW hj1
  simp only [h1, hj1, true_implies, false_implies, implies_true, not_true_eq_false, not_false_eq_true, not_true, not_false_iff, and_true, true_and, and_false, false_and, true_or, or_true, i1n0, i0e0]
  rw [t2, nI_l (by omega)]
  refine gc_loop hk hIW hj1 ?_ 5 0 N (by omega) (by omega)
  have hw2 : wi (s.1 6 0 35) 0 8 := by rw [← e1, e2]; exact hw
  have h12 : wi (nI j) 0 (s.1 6 0 35 - 1) := by rw [← e1, e2]; exact h1
  simp only [mwork_eq hw2, h12, true_implies, false_implies, implies_true, not_true_eq_false, not_false_eq_true, not_true, not_false_iff, and_true, true_and, and_false, false_and, true_or, or_true, i1n0, i0e0]
  refine gm_loop hN hk hIW hj1 ?_ 5 0 N (by omega) (by omega)
  exact hP _ _ hI2
