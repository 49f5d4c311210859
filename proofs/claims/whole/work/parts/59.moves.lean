/-! the best move, as the class has it -/
def cv (s : Sx) (cnt np t : Nat) : Int32 := if cnt ≤ bc t then 0 else e3 (mv s cnt np t)
theorem cv_e {s : Sx} {cnt np t : Nat} (h : bc t ≤ cnt) : cv s cnt np t = e3 (mv s cnt np t) := by
  unfold cv
  by_cases c : cnt ≤ bc t
  · rw [if_pos c, mv_0 (by omega)]; rfl
  · rw [if_neg c]
theorem or_lt {t p n : Nat} (ht : t < 2 ^ n) (hp : p < n) : t ||| 2 ^ p < 2 ^ n := Nat.or_lt_two_pow ht (Nat.pow_lt_pow_right (by decide) hp)
theorem n256 {n : Nat} (hn : n ≤ 8) : 2 ^ n ≤ 256 := Nat.pow_le_pow_right (n := 2) (by decide) hn
/-- the class' gainFrom -/
theorem gfr_c {N cnt np t p : Nat} {s S : Sx} {post : Int32 → Sx → Prop} (hC : IC s) (hL : IL s) (hc7 : cnt ≤ 7) (hn8 : np ≤ 8) (h : ∀ n, 1 ≤ n → n < 39 → S.1 0 n = s.1 0 n) (ht : t < 2 ^ np) (hp : p < np) (hbc : bc t < cnt) (h39 : ∀ u, t < u → u < 2 ^ np → S.1 0 39 u = cv s cnt np u) (q : post (e3 (fr s cnt np t p)) S) : w_X5_gainFrom N (nI (bc t)) (nI p) (nI t) S post := by
  have h256 := n256 hn8
  have hv : vp_in (nI p) 8 := vp_in_nI (by omega) (by decide)
  simp only [w_X5_gainFrom, w_X5_isFree, hv, true_implies, false_implies, implies_true, not_true_eq_false, not_false_eq_true, not_true, not_false_iff, and_true, true_and, and_false, false_and, true_or, or_true, i1n0, i0e0, nI_clamp (show p < 2 ^ 31 by omega), h 38 (by decide) (by decide), sh_bt t (by omega) p (by omega), or_bt t (by omega) p (by omega)]
  unfold fr at q
  by_cases c1 : s.1 0 38 p = 0
  · rw [if_pos (Or.inl c1)] at q
    simp only [c1, true_implies, false_implies, implies_true, not_true_eq_false, not_false_eq_true, not_true, not_false_iff, and_true, true_and, and_false, false_and, true_or, or_true, i1n0, i0e0]
    exact q
  by_cases c2 : bt t p = 1
  · rw [if_pos (Or.inr c2)] at q
    have : ¬ nI 1 = 0 := by decide
    simp only [c1, c2, this, true_implies, false_implies, implies_true, not_true_eq_false, not_false_eq_true, not_true, not_false_iff, and_true, true_and, and_false, false_and, true_or, or_true, i1n0, i0e0]
    exact q
  have c3 : bt t p = 0 := by rcases bt_01 t p with h | h; exact h; exact absurd h c2
  rw [if_neg (fun q => q.elim c1 c2)] at q
  obtain ⟨b1, b2, b3⟩ := bc_or t (by omega) p (by omega) c3
  have hlt := or_lt ht hp
  have hv2 : vp_in (nI (t ||| 2 ^ p)) 256 := vp_in_nI b2 (by decide)
  have e39 := h39 _ b3 hlt
  rw [cv_e (by omega)] at e39
  have : nI 0 = 0 := rfl
  simp only [c1, c3, this, hv2, nI_clamp (show t ||| 2 ^ p < 2 ^ 31 by omega), e39, true_implies, false_implies, implies_true, not_true_eq_false, not_false_eq_true, not_true, not_false_iff, and_true, true_and, and_false, false_and, true_or, or_true, i1n0, i0e0, e3_n (mv_i hC hL _)]
  rcases hm : mv s cnt np (t ||| 2 ^ p) with _ | v
  · rw [hm] at q
    simp only [true_implies, false_implies, implies_true, not_true_eq_false, not_false_eq_true, not_true, not_false_iff, and_true, true_and, and_false, false_and, true_or, or_true, i1n0, i0e0]
    exact q
  · rw [hm] at q e39
    simp only [show (some v = none) = False from by simp, true_implies, false_implies, implies_true, not_true_eq_false, not_false_eq_true, not_true, not_false_iff, and_true, true_and, and_false, false_and, true_or, or_true, i1n0, i0e0]
    refine gn_c (s := s) (by omega) (by omega) h ?_
    rw [e39]
    show post (gn s (bc t) p + Int32.ofInt v) S
    rw [gn3]
    exact q
theorem mb_loop {N cnt np t : Nat} {s S : Sx} {post : Int32 → Sx → Prop} (hC : IC s) (hL : IL s) (hc7 : cnt ≤ 7) (hn8 : np ≤ 8) (en : s.1 0 34 4 = nI np) (h : ∀ n, 1 ≤ n → n < 39 → S.1 0 n = s.1 0 n) (ht : t < 2 ^ np) (hbc : bc t < cnt) (h39 : ∀ u, t < u → u < 2 ^ np → S.1 0 39 u = cv s cnt np u) (q : post (e3 (mx (fr s cnt np t) np)) S) : ∀ m i fuel, i + m = np → m < fuel → w_X5_mostBehind_22 N post fuel S (nI t) (nI (bc t)) (e3 (mx (fr s cnt np t) i)) (nI i) := by
  have en' : S.1 0 34 4 = nI np := by rw [h 34 (by decide) (by decide)]; exact en
  intro m
  induction m with
  | zero =>
    intro i f h1 h2
    obtain ⟨f, rfl⟩ : ∃ g, f = g + 1 := ⟨f - 1, by omega⟩
    have hi : i = np := by omega
    subst hi
    simp only [w_X5_mostBehind_22, en', nle (show i < 2 ^ 31 by omega) (show i < 2 ^ 31 by omega), Nat.le_refl, true_implies, false_implies, implies_true, not_true_eq_false, not_false_eq_true, not_true, not_false_iff, and_true, true_and, and_false, false_and, true_or, or_true, i1n0, i0e0]
    exact q
  | succ m ih =>
    intro i f h1 h2
    obtain ⟨f, rfl⟩ : ∃ g, f = g + 1 := ⟨f - 1, by omega⟩
    simp only [w_X5_mostBehind_22, en', nle (show np < 2 ^ 31 by omega) (show i < 2 ^ 31 by omega), show ¬ np ≤ i by omega, true_implies, false_implies, implies_true, not_true_eq_false, not_false_eq_true, not_true, not_false_iff, and_true, true_and, and_false, false_and, true_or, or_true, i1n0, i0e0]
    refine gfr_c hC hL hc7 hn8 h ht (by omega) hbc h39 ?_
    rw [e3_max (sml_mx (fun p => fr_i hC hL t p) _) (fr_i hC hL t i)]
    simp only [forall_eq, nI_1]
    exact ih (i + 1) f (by omega) (by omega)
theorem mb_eq {N cnt np t : Nat} {s S : Sx} {post : Int32 → Sx → Prop} (hN : 20000 ≤ N) (hC : IC s) (hL : IL s) (hc7 : cnt ≤ 7) (hn8 : np ≤ 8) (ec : s.1 0 1 4 = nI cnt) (en : s.1 0 34 4 = nI np) (h : ∀ n, 1 ≤ n → n < 39 → S.1 0 n = s.1 0 n) (ht : t < 2 ^ np) (h39 : ∀ u, t < u → u < 2 ^ np → S.1 0 39 u = cv s cnt np u) (q : post (cv s cnt np t) S) : w_X5_mostBehind N (nI t) S post := by
  have h256 := n256 hn8
  have hb := bc_le t
  have ec' : S.1 0 1 4 = nI cnt := by rw [h 1 (by decide) (by decide)]; exact ec
  unfold w_X5_mostBehind
  rw [bic_eq (by omega)]
  simp only [ec', nlt (show bc t < 2 ^ 31 by omega) (show cnt < 2 ^ 31 by omega)]
  unfold cv at q
  by_cases c : bc t < cnt
  · rw [if_neg (by omega), mv_s (by omega) hn8 (by omega)] at q
    simp only [c, true_implies, false_implies, implies_true, not_true_eq_false, not_false_eq_true, not_true, not_false_iff, and_true, true_and, and_false, false_and, true_or, or_true, i1n0, i0e0]
    exact mb_loop hC hL hc7 hn8 en h ht c h39 q np 0 N (by omega) (by omega)
  · rw [if_pos (by omega)] at q
    simp only [c, true_implies, false_implies, implies_true, not_true_eq_false, not_false_eq_true, not_true, not_false_iff, and_true, true_and, and_false, false_and, true_or, or_true, i1n0, i0e0]
    exact q
/-- the states of the first loop -/
def f39 (s : Sx) (cnt np i : Nat) : Nat → Int32 := fun u => if i ≤ u ∧ u < 2 ^ np then cv s cnt np u else s.1 0 39 u
theorem f39_s {s : Sx} {cnt np i : Nat} (hi : i < 2 ^ np) : upd (f39 s cnt np (i + 1)) i (cv s cnt np i) = f39 s cnt np i := by
  funext u
  show (if u = i then cv s cnt np i else f39 s cnt np (i + 1) u) = _
  unfold f39
  by_cases e : u = i
  · subst e; rw [if_pos rfl, if_pos ⟨Nat.le_refl _, hi⟩]
  · rw [if_neg e]
    by_cases c : i ≤ u ∧ u < 2 ^ np
    · rw [if_pos c, if_pos (by omega)]
    · rw [if_neg c, if_neg (by omega)]
theorem s39 (s : Sx) (f : Nat → Int32) (n : Nat) (h : n < 39) : (setA s 0 39 f).1 0 n = s.1 0 n := by
  rw [rdA, if_neg (by omega)]
theorem fb_loop {N cnt np : Nat} {s : Sx} {post : Int32 → Sx → Prop} (hN : 20000 ≤ N) (hC : IC s) (hL : IL s) (hc7 : cnt ≤ 7) (hn8 : np ≤ 8) (ec : s.1 0 1 4 = nI cnt) (en : s.1 0 34 4 = nI np) (q1 : ¬ mv s cnt np 0 = none → w_X5_findBestMove_48 N post N (setA s 0 39 (f39 s cnt np 0)) 0 0) (q0 : mv s cnt np 0 = none → post 0 (setA s 0 39 (f39 s cnt np 0))) : ∀ i fuel, i ≤ 2 ^ np → i < fuel → w_X5_findBestMove_9 N post fuel (setA s 0 39 (f39 s cnt np i)) (nI i + (-1)) := by
  have h256 := n256 hn8
  intro i
  induction i with
  | zero =>
    intro fuel h1 h2
    obtain ⟨f, rfl⟩ : ∃ g, fuel = g + 1 := ⟨fuel - 1, by omega⟩
    have h0 : nI 0 + (-1) < 0 := by decide
    have hp2 : 0 < 2 ^ np := Nat.two_pow_pos np
    have hv : vp_in 0 256 := vp_in_nI (n := 0) (by decide) (by decide)
    have h3 : (setA s 0 39 (f39 s cnt np 0)).1 0 39 (0 : Int32).toNatClampNeg = e3 (mv s cnt np 0) := by
      show f39 s cnt np 0 0 = _
      unfold f39
      rw [if_pos ⟨Nat.le_refl _, hp2⟩, cv_e (by show 0 ≤ cnt; omega)]
    simp only [w_X5_findBestMove_9, h0, hv, h3, e3_n (mv_i hC hL _), true_implies, false_implies, implies_true, not_true_eq_false, not_false_eq_true, not_true, not_false_iff, and_true, true_and, and_false, false_and, true_or, or_true, i1n0, i0e0]
    exact ⟨q1, fun q => q0 (Classical.not_not.mp q)⟩
  | succ i ih =>
    intro fuel h1 h2
    obtain ⟨f, rfl⟩ : ∃ g, fuel = g + 1 := ⟨fuel - 1, by omega⟩
    have hv : vp_in (nI i) 256 := vp_in_nI (by omega) (by decide)
    rw [pk_m1]
    simp only [w_X5_findBestMove_9, nI_pos (show i < 2 ^ 31 by omega), true_implies, false_implies, implies_true, not_true_eq_false, not_false_eq_true, not_true, not_false_iff, and_true, true_and, and_false, false_and, true_or, or_true, i1n0, i0e0]
    refine mb_eq hN hC hL hc7 hn8 ec en (fun n _ h => s39 s _ n h) (by omega) (fun u hu1 hu2 => ?_) ?_
    · show f39 s cnt np (i + 1) u = _
      unfold f39
      rw [if_pos (by omega)]
    · simp only [hv, nI_clamp (show i < 2 ^ 31 by omega), forall_eq, true_implies, false_implies, implies_true, not_true_eq_false, not_false_eq_true, not_true, not_false_iff, and_true, true_and, and_false, false_and, true_or, or_true, i1n0, i0e0]
      rw [setI_A, setAA, show (setA s 0 39 (f39 s cnt np (i + 1))).1 0 39 = f39 s cnt np (i + 1) from rfl, f39_s (by omega)]
      exact ih f (by omega) (by omega)
/-- the place that is chosen behind t, and the ways -/
noncomputable def chs (s : Sx) (cnt np t : Nat) : Nat := (frs (fun p => fr s cnt np t p = mv s cnt np t) np 0).getD 0
noncomputable def pth (s : Sx) (cnt np : Nat) : Nat → Nat
  | 0 => 0
  | c + 1 => pth s cnt np c ||| 2 ^ chs s cnt np (pth s cnt np c)
theorem frs_first {c : Nat → Prop} : ∀ {m i p : Nat}, frs c m i = some p → ∀ q, i ≤ q → q < p → ¬ c q
  | 0, _, _, h, _, _, _ => by simp [frs] at h
  | m + 1, i, p, h, q, h1, h2 => by
    by_cases e : c i
    · rw [frs_y e] at h; injection h with h; omega
    · rw [frs_n e] at h
      by_cases g : q = i
      · subst g; exact e
      · exact frs_first h q (by omega) h2
theorem frs_ex {c : Nat → Prop} : ∀ {m i p : Nat}, i ≤ p → p < i + m → c p → ∃ q, frs c m i = some q
  | 0, _, _, h1, h2, _ => by omega
  | m + 1, i, p, h1, h2, h => by
    by_cases e : c i
    · exact ⟨i, frs_y e⟩
    · rw [frs_n e]
      have : i ≠ p := fun g => e (g ▸ h)
      exact frs_ex (by omega) (by omega) h
theorem chs_e {s : Sx} {cnt np t : Nat} (ht : t < 2 ^ np) (hn8 : np ≤ 8) (hbc : bc t < cnt) (hm : ¬ mv s cnt np t = none) : chs s cnt np t < np ∧ fr s cnt np t (chs s cnt np t) = mv s cnt np t ∧ (∀ q, q < chs s cnt np t → ¬ fr s cnt np t q = mv s cnt np t) ∧ t ||| 2 ^ chs s cnt np t < 2 ^ np ∧ bc (t ||| 2 ^ chs s cnt np t) = bc t + 1 ∧ ¬ mv s cnt np (t ||| 2 ^ chs s cnt np t) = none := by
  have h256 := n256 hn8
  rcases hv : mv s cnt np t with _ | v
  · exact absurd hv hm
  have hs := mv_s (s := s) (cnt := cnt) (t := t) (by omega) hn8 (by omega)
  rw [hv] at hs
  obtain ⟨p, hp, ep⟩ := mx_some hs.symm
  obtain ⟨x, hx⟩ := frs_ex (c := fun p => fr s cnt np t p = mv s cnt np t) (m := np) (i := 0) (p := p) (by omega) (by omega) (by rw [hv]; exact ep)
  have e : chs s cnt np t = x := by unfold chs; rw [hx]; rfl
  obtain ⟨-, x1, x2⟩ := frs_some hx
  have x2' : fr s cnt np t x = mv s cnt np t := x2
  have x3 := frs_first hx
  rw [e]
  have hfr : ¬ fr s cnt np t x = none := by rw [x2', hv]; simp
  unfold fr at hfr
  by_cases c : s.1 0 38 x = 0 ∨ bt t x = 1
  · rw [if_pos c] at hfr; exact absurd rfl hfr
  rw [if_neg c] at hfr
  have c3 : bt t x = 0 := by rcases bt_01 t x with h | h; exact h; exact absurd (Or.inr h) c
  refine ⟨by omega, by rw [x2', hv], fun q hq => by rw [← hv]; exact x3 q (by omega) hq, or_lt ht (by omega), (bc_or t (by omega) x (by omega) c3).1, fun q => ?_⟩
  rw [q] at hfr
  exact hfr rfl
theorem pth_e {s : Sx} {cnt np : Nat} (hn8 : np ≤ 8) (hm : ¬ mv s cnt np 0 = none) : ∀ c, c ≤ cnt → pth s cnt np c < 2 ^ np ∧ bc (pth s cnt np c) = c ∧ ¬ mv s cnt np (pth s cnt np c) = none
  | 0, _ => ⟨Nat.two_pow_pos np, by unfold pth; decide, hm⟩
  | c + 1, h => by
    obtain ⟨h1, h2, h3⟩ := pth_e hn8 hm c (by omega)
    obtain ⟨-, -, -, g1, g2, g3⟩ := chs_e h1 hn8 (by omega) h3
    exact ⟨g1, by show bc (_ ||| _) = _; rw [g2, h2], g3⟩
noncomputable def chc (s : Sx) (cnt np c : Nat) : Nat := chs s cnt np (pth s cnt np c)
theorem fm_lp {N cnt np t : Nat} {s S : Sx} {post : Int32 → Sx → Prop} (hC : IC s) (hL : IL s) (hc7 : cnt ≤ 7) (hn8 : np ≤ 8) (en : s.1 0 34 4 = nI np) (h : ∀ n, 1 ≤ n → n < 39 → S.1 0 n = s.1 0 n) (ht : t < 2 ^ np) (hbc : bc t < cnt) (hm : ¬ mv s cnt np t = none) (h39 : ∀ u, t ≤ u → u < 2 ^ np → S.1 0 39 u = cv s cnt np u) (q : post (nI (chs s cnt np t)) S) : ∀ m i fuel, i + m = chs s cnt np t → m < fuel → w_X5_firstOfMost_3 N post fuel S (nI (bc t)) (nI t) (nI i) := by
  have h256 := n256 hn8
  obtain ⟨g1, g2, g3, -⟩ := chs_e ht hn8 hbc hm
  have en' : S.1 0 34 4 = nI np := by rw [h 34 (by decide) (by decide)]; exact en
  have hv : vp_in (nI t) 256 := vp_in_nI (by omega) (by decide)
  have ht39 : S.1 0 39 t = e3 (mv s cnt np t) := by rw [h39 t (Nat.le_refl _) ht, cv_e (by omega)]
  intro m
  induction m with
  | zero =>
    intro i f h1 h2
    obtain ⟨f, rfl⟩ : ∃ g, f = g + 1 := ⟨f - 1, by omega⟩
    have hi : i = chs s cnt np t := by omega
    simp only [w_X5_firstOfMost_3, en', nle (show np < 2 ^ 31 by omega) (show i < 2 ^ 31 by omega), show ¬ np ≤ i by omega, true_implies, false_implies, implies_true, not_true_eq_false, not_false_eq_true, not_true, not_false_iff, and_true, true_and, and_false, false_and, true_or, or_true, i1n0, i0e0]
    refine gfr_c hC hL hc7 hn8 h ht (by omega) hbc (fun u h1 h2 => h39 u (by omega) h2) ?_
    simp only [hv, nI_clamp (show t < 2 ^ 31 by omega), ht39, e3_inj (fr_i hC hL t i) (mv_i hC hL t), true_implies, false_implies, implies_true, not_true_eq_false, not_false_eq_true, not_true, not_false_iff, and_true, true_and, and_false, false_and, true_or, or_true, i1n0, i0e0]
    rw [hi, show (fr s cnt np t (chs s cnt np t) = mv s cnt np t) = True from eq_true g2]
    simp only [true_implies, false_implies, implies_true, not_true_eq_false, not_false_eq_true, not_true, not_false_iff, and_true, true_and, and_false, false_and, true_or, or_true, i1n0, i0e0]
    exact q
  | succ m ih =>
    intro i f h1 h2
    obtain ⟨f, rfl⟩ : ∃ g, f = g + 1 := ⟨f - 1, by omega⟩
    simp only [w_X5_firstOfMost_3, en', nle (show np < 2 ^ 31 by omega) (show i < 2 ^ 31 by omega), show ¬ np ≤ i by omega, true_implies, false_implies, implies_true, not_true_eq_false, not_false_eq_true, not_true, not_false_iff, and_true, true_and, and_false, false_and, true_or, or_true, i1n0, i0e0]
    refine gfr_c hC hL hc7 hn8 h ht (by omega) hbc (fun u h1 h2 => h39 u (by omega) h2) ?_
    simp only [hv, nI_clamp (show t < 2 ^ 31 by omega), ht39, e3_inj (fr_i hC hL t i) (mv_i hC hL t), true_implies, false_implies, implies_true, not_true_eq_false, not_false_eq_true, not_true, not_false_iff, and_true, true_and, and_false, false_and, true_or, or_true, i1n0, i0e0, g3 i (by omega), forall_eq, nI_1]
    exact ih (i + 1) f (by omega) (by omega)
noncomputable def f40 (s : Sx) (cnt np c : Nat) : Nat → Int32 := fun i => if i < c then nI (chc s cnt np i) else s.1 0 40 i
noncomputable def sC (s : Sx) (cnt np c : Nat) : Sx := setA (setA s 0 39 (f39 s cnt np 0)) 0 40 (f40 s cnt np c)
theorem pc_loop {N cnt np : Nat} {s : Sx} {post : Int32 → Sx → Prop} (hN : 20000 ≤ N) (hC : IC s) (hL : IL s) (hc7 : cnt ≤ 7) (hn8 : np ≤ 8) (ec : s.1 0 1 4 = nI cnt) (en : s.1 0 34 4 = nI np) (hm : ¬ mv s cnt np 0 = none) (q : post 1 (sC s cnt np cnt)) : ∀ m c fuel, c + m = cnt → m < fuel → w_X5_findBestMove_48 N post fuel (sC s cnt np c) (nI (pth s cnt np c)) (nI c) := by
  have h256 := n256 hn8
  have ec' : ∀ c, (sC s cnt np c).1 0 1 4 = nI cnt := fun c => ec
  intro m
  induction m with
  | zero =>
    intro i f h1 h2
    obtain ⟨f, rfl⟩ : ∃ g, f = g + 1 := ⟨f - 1, by omega⟩
    have hi : i = cnt := by omega
    subst hi
    simp only [w_X5_findBestMove_48, ec', nle (show i < 2 ^ 31 by omega) (show i < 2 ^ 31 by omega), Nat.le_refl, true_implies, false_implies, implies_true, not_true_eq_false, not_false_eq_true, not_true, not_false_iff, and_true, true_and, and_false, false_and, true_or, or_true, i1n0, i0e0]
    exact q
  | succ m ih =>
    intro c f h1 h2
    obtain ⟨f, rfl⟩ : ∃ g, f = g + 1 := ⟨f - 1, by omega⟩
    obtain ⟨p1, p2, p3⟩ := pth_e hn8 hm c (by omega)
    obtain ⟨g1, g2, g3, g4, -⟩ := chs_e p1 hn8 (by omega) p3
    have hv : vp_in (nI c) 7 := vp_in_nI (by omega) (by decide)
    simp only [w_X5_findBestMove_48, w_X5_firstOfMost, ec', nle (show cnt < 2 ^ 31 by omega) (show c < 2 ^ 31 by omega), show ¬ cnt ≤ c by omega, true_implies, false_implies, implies_true, not_true_eq_false, not_false_eq_true, not_true, not_false_iff, and_true, true_and, and_false, false_and, true_or, or_true, i1n0, i0e0]
    have hr := ih (c + 1) f (by omega) (by omega)
    have e : setI (sC s cnt np c) 0 40 c (nI (chs s cnt np (pth s cnt np c))) = sC s cnt np (c + 1) := by
      unfold sC
      rw [setI_A, setAA]
      congr 1
      rw [rdA, if_pos ⟨rfl, rfl⟩]
      exact upd_cp (f := fun i => nI (chc s cnt np i)) rfl
    have hmain := fm_lp (N := N) (S := sC s cnt np c) (post := fun r_7 s_6 => vp_in (nI c) 7 ∧ ∀ s_9, s_9 = setI s_6 0 40 (nI c).toNatClampNeg r_7 → vp_in (nI c) 7 ∧ ∀ x_11 : Int32, x_11 = nI (pth s cnt np c) ||| (1 <<< ((s_9.1 0 40 (nI c).toNatClampNeg) &&& 31)) → ∀ x_12 : Int32, x_12 = nI c + 1 → w_X5_findBestMove_48 N post f s_9 x_11 x_12) hC hL hc7 hn8 en (fun n h1 h2 => ?_) p1 (by omega) p3 (fun u h1 h2 => ?_) ?_ (chs s cnt np (pth s cnt np c)) 0 N (by omega) (by omega)
    · rw [p2] at hmain
      exact hmain
    · unfold sC; rw [rdA, if_neg (by omega), rdA, if_neg (by omega)]
    · show f39 s cnt np 0 u = _
      unfold f39
      rw [if_pos (by omega)]
    · simp only [hv, nI_clamp (show c < 2 ^ 31 by omega), forall_eq, true_implies, false_implies, implies_true, not_true_eq_false, not_false_eq_true, not_true, not_false_iff, and_true, true_and, and_false, false_and, true_or, or_true, i1n0, i0e0, nI_1, e]
      have e2 : (sC s cnt np (c + 1)).1 0 40 c = nI (chs s cnt np (pth s cnt np c)) := by
        show f40 s cnt np (c + 1) c = _
        unfold f40
        rw [if_pos (by omega)]
        rfl
      rw [e2, or_bt _ (by omega) _ (by omega)]
      exact hr
theorem fbm_eq {N cnt np : Nat} {s : Sx} {post : Int32 → Sx → Prop} (hN : 20000 ≤ N) (hC : IC s) (hL : IL s) (hc7 : cnt ≤ 7) (hn8 : np ≤ 8) (ec : s.1 0 1 4 = nI cnt) (en : s.1 0 34 4 = nI np) (q1 : ¬ mv s cnt np 0 = none → post 1 (sC s cnt np cnt)) (q0 : mv s cnt np 0 = none → post 0 (setA s 0 39 (f39 s cnt np 0))) : w_X5_findBestMove N s post := by
  have h256 := n256 hn8
  simp only [w_X5_findBestMove, forall_eq, en, one_sh np (by omega)]
  have e : s = setA s 0 39 (f39 s cnt np (2 ^ np)) := by
    rw [setA_self]
    funext u
    unfold f39
    rw [if_neg (by omega)]
  have hmain := fb_loop hN hC hL hc7 hn8 ec en (post := post) (fun hm => ?_) q0 (2 ^ np) N (Nat.le_refl _) (by omega)
  · rw [← e] at hmain
    exact hmain
  · have e2 : setA s 0 39 (f39 s cnt np 0) = sC s cnt np 0 := by
      unfold sC
      exact (setA_self _ 0 40 _ (by funext i; unfold f40; rw [if_neg (by omega)]; rfl)).symm
    rw [e2]
    exact pc_loop hN hC hL hc7 hn8 ec en hm (q1 hm) cnt 0 N (by omega) (by omega)
