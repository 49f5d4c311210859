/-! the best move, as the reference has it -/
def setL (s : Sx) (k j : Nat) (f : Nat → Int64) : Sx := (s.1, (fun k' j' => if k' = k ∧ j' = j then f else s.2.1 k' j'), s.2.2)
theorem setJ_L (s : Sx) (k j i : Nat) (v : Int64) : setJ s k j i v = setL s k j (vp_updL (s.2.1 k j) i v) := rfl
theorem rdL (s : Sx) (k j : Nat) (f : Nat → Int64) : (setL s k j f).2.1 k j = f := by
  show (if k = k ∧ j = j then f else _) = f
  rw [if_pos ⟨rfl, rfl⟩]
theorem setLL (s : Sx) (k j : Nat) (f g : Nat → Int64) : setL (setL s k j f) k j g = setL s k j g := by
  unfold setL
  refine Prod.ext rfl (Prod.ext ?_ rfl)
  funext k' j'
  by_cases h : k' = k ∧ j' = j <;> simp [h]
theorem setL_self (s : Sx) (k j : Nat) (f : Nat → Int64) (h : f = s.2.1 k j) : setL s k j f = s := by
  subst h
  unfold setL
  refine Prod.ext rfl (Prod.ext ?_ rfl)
  funext k' j'
  by_cases h : k' = k ∧ j' = j
  · obtain ⟨rfl, rfl⟩ := h; simp
  · simp [h]
theorem updLL {f : Nat → Int64} {i : Nat} {a b : Int64} : vp_updL (vp_updL f i a) i b = vp_updL f i b := by
  funext u
  by_cases h : u = i
  · subst h; rw [pk_uLs, pk_uLs]
  · rw [pk_uLn h, pk_uLn h, pk_uLn h]
theorem omx_none (a : Option Int) : omx a none = a := by rcases a with _ | a <;> rfl
def mvl (s : Sx) (cnt np t : Nat) : Int64 := if bc t = cnt then 0 else if cnt < bc t then (-9223372036854775808) else e6 (mv s cnt np t)
theorem mvl_e {s : Sx} {cnt np t : Nat} (h : bc t ≤ cnt) : mvl s cnt np t = e6 (mv s cnt np t) := by
  unfold mvl
  by_cases c : bc t = cnt
  · rw [if_pos c, mv_0 c]; rfl
  · rw [if_neg c, if_neg (by omega)]
def g68 (s T : Sx) (cnt np i : Nat) : Nat → Int64 := fun u => if i ≤ u ∧ u < 2 ^ np then mvl s cnt np u else T.2.1 5 68 u
theorem g68_s {s T : Sx} {cnt np i : Nat} (hi : i < 2 ^ np) : vp_updL (g68 s T cnt np (i + 1)) i (mvl s cnt np i) = g68 s T cnt np i := by
  funext u
  by_cases e : u = i
  · subst e
    rw [pk_uLs]
    unfold g68
    rw [if_pos ⟨Nat.le_refl _, hi⟩]
  · rw [pk_uLn e]
    unfold g68
    by_cases c : i ≤ u ∧ u < 2 ^ np
    · rw [if_pos c, if_pos (by omega)]
    · rw [if_neg c, if_neg (by omega)]
theorem l64 {a b : Int64} : a ≤ b ↔ a.toInt ≤ b.toInt := Int64.le_iff_toInt_le
theorem lm_lp {N cnt np t : Nat} {s T : Sx} {post : Sx → Prop} {K : Sx → Int32 → Prop} (hC : IC s) (hL : IL s) (hc7 : cnt ≤ 7) (hn8 : np ≤ 8) (ec : s.1 0 1 4 = nI cnt) (en : s.1 0 34 4 = nI np) (h5 : T.1 5 = s.1 5) (h6 : T.1 6 0 = s.1 6 0) (ht : t < 2 ^ np) (hbc : bc t < cnt) (q : K (setL T 5 68 (vp_updL (g68 s T cnt np (t + 1)) t (e6 (mx (fr s cnt np t) np)))) (nI t + (-1))) : ∀ m i fuel, i + m = np → m < fuel → w_X12_layMoves_41 N post K fuel (setL T 5 68 (vp_updL (g68 s T cnt np (t + 1)) t (e6 (mx (fr s cnt np t) i)))) (nI t) (nI (bc t)) (nI i) := by
  have h256 := n256 hn8
  have en' : ∀ f, (setL T 5 68 f).1 6 0 63 = nI np := fun f => by show T.1 6 0 63 = _; rw [h6, ← hL.1, en]
  have ec' : ∀ f, (setL T 5 68 f).1 6 0 5 = nI cnt := fun f => by show T.1 6 0 5 = _; rw [h6, ← hC.1, ec]
  have e67 : ∀ f, (setL T 5 68 f).1 5 67 = s.1 0 38 := fun f => by show T.1 5 67 = _; rw [h5]; exact hL.2.2.2.2.2.1.symm
  intro m
  induction m with
  | zero =>
    intro i f h1 h2
    obtain ⟨f, rfl⟩ : ∃ g, f = g + 1 := ⟨f - 1, by omega⟩
    have hi : i = np := by omega
    subst hi
    simp only [w_X12_layMoves_41, en', nle (show i < 2 ^ 31 by omega) (show i < 2 ^ 31 by omega), Nat.le_refl, true_implies, false_implies, implies_true, not_true_eq_false, not_false_eq_true, not_true, not_false_iff, and_true, true_and, and_false, false_and, true_or, or_true, i1n0, i0e0, forall_eq]
    exact q
  | succ m ih =>
    intro i f h1 h2
    obtain ⟨f, rfl⟩ : ∃ g, f = g + 1 := ⟨f - 1, by omega⟩
    have hr := ih (i + 1) f (by omega) (by omega)
    rw [mx_s] at hr
    have hv : vp_in (nI i) 8 := vp_in_nI (by omega) (by decide)
    simp only [w_X12_layMoves_41, en', ec', e67, nle (show np < 2 ^ 31 by omega) (show i < 2 ^ 31 by omega), nle (show cnt < 2 ^ 31 by omega) (show bc t < 2 ^ 31 by omega), show ¬ np ≤ i by omega, show ¬ cnt ≤ bc t by omega, true_implies, false_implies, implies_true, not_true_eq_false, not_false_eq_true, not_true, not_false_iff, and_true, true_and, and_false, false_and, true_or, or_true, i1n0, i0e0, forall_eq, nI_1, hv, nI_clamp (show i < 2 ^ 31 by omega), sh_bt t (by omega) i (by omega), or_bt t (by omega) i (by omega), lg_cmp_eq, rdL]
    by_cases c2 : bt t i = 1
    · have hf : fr s cnt np t i = none := if_pos (Or.inr c2)
      rw [hf, omx_none] at hr
      have : nI 1 = 1 := rfl
      simp only [c2, this, true_implies, false_implies, implies_true, not_true_eq_false, not_false_eq_true, not_true, not_false_iff, and_true, true_and, and_false, false_and, true_or, or_true, i1n0, i0e0]
      exact hr
    have c3 : bt t i = 0 := by rcases bt_01 t i with h | h; exact h; exact absurd h c2
    have n01 : ¬ nI 0 = 1 := by decide
    by_cases c1 : s.1 0 38 i = 0
    · have hf : fr s cnt np t i = none := if_pos (Or.inl c1)
      rw [hf, omx_none] at hr
      simp only [c3, n01, c1, true_implies, false_implies, implies_true, not_true_eq_false, not_false_eq_true, not_true, not_false_iff, and_true, true_and, and_false, false_and, true_or, or_true, i1n0, i0e0]
      exact hr
    obtain ⟨b1, b2, b3⟩ := bc_or t (by omega) i (by omega) c3
    have hlt := or_lt (p := i) ht (by omega)
    have hv2 : vp_in (nI (t ||| 2 ^ i)) 256 := vp_in_nI b2 (by decide)
    have hv3 : vp_in (nI t) 256 := vp_in_nI (by omega) (by decide)
    have hf : fr s cnt np t i = (mv s cnt np (t ||| 2 ^ i)).map (fun v => (gn s (bc t) i).toInt + v) := if_neg (fun q => q.elim c1 c2)
    have hel : ∀ a, vp_updL (g68 s T cnt np (t + 1)) t a (t ||| 2 ^ i) = e6 (mv s cnt np (t ||| 2 ^ i)) := fun a => by
      rw [pk_uLn (by omega)]
      unfold g68
      rw [if_pos (by omega), mvl_e (by omega)]
    simp only [c3, n01, c1, true_implies, false_implies, implies_true, not_true_eq_false, not_false_eq_true, not_true, not_false_iff, and_true, true_and, and_false, false_and, true_or, or_true, i1n0, i0e0, hv2, hv3, nI_clamp (show t ||| 2 ^ i < 2 ^ 31 by omega), nI_clamp (show t < 2 ^ 31 by omega), hel, e6_n (mv_i hC hL _)]
    rcases hm : mv s cnt np (t ||| 2 ^ i) with _ | v
    · rw [hf, hm] at hr
      simp only [Option.map_none, omx_none] at hr
      simp only [true_implies, false_implies, implies_true, not_true_eq_false, not_false_eq_true, not_true, not_false_iff, and_true, true_and, and_false, false_and, true_or, or_true, i1n0, i0e0]
      exact hr
    · have hs := fr_i (cnt := cnt) (np := np) hC hL t i
      rw [hf, hm, Option.map_some] at hs hr
      simp only [show (some v = none) = False from by simp, true_implies, false_implies, implies_true, not_true_eq_false, not_false_eq_true, not_true, not_false_iff, and_true, true_and, and_false, false_and, true_or, or_true, i1n0, i0e0]
      refine gn_m (s := s) hC hL (by omega) (by omega) (congrFun h5 6) (congrFun h5 7) (congrFun h5 64) (congrFun h5 65) (congrFun h5 66) ?_
      simp only [rdL, hel, hm]
      rw [show (e6 (some v)) = Int64.ofInt v from rfl, gn6]
      simp only [forall_eq, pk_uLs, e6_n (sml_mx (fun p => fr_i (cnt := cnt) (np := np) hC hL t p) i), w_X12_layMoves_144, w_X12_layMoves_155, hv3, nI_clamp (show t < 2 ^ 31 by omega), true_implies, false_implies, implies_true, not_true_eq_false, not_false_eq_true, not_true, not_false_iff, and_true, true_and, and_false, false_and, true_or, or_true, i1n0, i0e0, setJ_L, setLL, rdL, updLL, nI_1, lg_cmp_le]
      have hmx := sml_mx (fun p => fr_i (cnt := cnt) (np := np) hC hL t p) i
      rcases hx : mx (fr s cnt np t) i with _ | w
      · rw [hx] at hr
        simp only [true_implies, false_implies, implies_true, not_true_eq_false, not_false_eq_true, not_true, not_false_iff, and_true, true_and, and_false, false_and, true_or, or_true, i1n0, i0e0]
        exact hr
      · rw [hx] at hr hmx
        have hle : (e6 (some ((gn s (bc t) i).toInt + v)) ≤ e6 (some w)) = ((gn s (bc t) i).toInt + v ≤ w) := by
          rw [l64, show (e6 (some ((gn s (bc t) i).toInt + v))).toInt = (gn s (bc t) i).toInt + v from o6 hs, show (e6 (some w)).toInt = w from o6 hmx]
        simp only [show (some w = none) = False from by simp, true_implies, false_implies, implies_true, not_true_eq_false, not_false_eq_true, not_true, not_false_iff, and_true, true_and, and_false, false_and, true_or, or_true, i1n0, i0e0, hle]
        simp only [omx] at hr
        by_cases c : (gn s (bc t) i).toInt + v ≤ w
        · rw [if_neg (by omega)] at hr
          simp only [c, true_implies, false_implies, implies_true, not_true_eq_false, not_false_eq_true, not_true, not_false_iff, and_true, true_and, and_false, false_and, true_or, or_true, i1n0, i0e0]
          exact hr
        · rw [if_pos (by omega)] at hr
          simp only [c, true_implies, false_implies, implies_true, not_true_eq_false, not_false_eq_true, not_true, not_false_iff, and_true, true_and, and_false, false_and, true_or, or_true, i1n0, i0e0]
          exact hr
theorem ly_loop {N cnt np : Nat} {s T : Sx} {post : Sx → Prop} (hN : 20000 ≤ N) (hC : IC s) (hL : IL s) (hc7 : cnt ≤ 7) (hn8 : np ≤ 8) (ec : s.1 0 1 4 = nI cnt) (en : s.1 0 34 4 = nI np) (h5 : T.1 5 = s.1 5) (h6 : T.1 6 0 = s.1 6 0) (q : post (setL T 5 68 (g68 s T cnt np 0))) : ∀ i fuel, i ≤ 2 ^ np → i < fuel → w_X12_layMoves_9 N post fuel (setL T 5 68 (g68 s T cnt np i)) (nI i + (-1)) := by
  have h256 := n256 hn8
  have en' : ∀ f, (setL T 5 68 f).1 6 0 63 = nI np := fun f => by show T.1 6 0 63 = _; rw [h6, ← hL.1, en]
  have ec' : ∀ f, (setL T 5 68 f).1 6 0 5 = nI cnt := fun f => by show T.1 6 0 5 = _; rw [h6, ← hC.1, ec]
  intro i
  induction i with
  | zero =>
    intro fuel h1 h2
    obtain ⟨f, rfl⟩ : ∃ g, fuel = g + 1 := ⟨fuel - 1, by omega⟩
    have h0 : nI 0 + (-1) < 0 := by decide
    simp only [w_X12_layMoves_9, h0, true_implies, false_implies, implies_true, not_true_eq_false, not_false_eq_true, not_true, not_false_iff, and_true, true_and, and_false, false_and, true_or, or_true, i1n0, i0e0]
    exact q
  | succ i ih =>
    intro fuel h1 h2
    obtain ⟨f, rfl⟩ : ∃ g, fuel = g + 1 := ⟨fuel - 1, by omega⟩
    have hv : vp_in (nI i) 256 := vp_in_nI (by omega) (by decide)
    have hr := ih f (by omega) (by omega)
    have hb := bc_le i
    rw [pk_m1]
    simp only [w_X12_layMoves_9, nI_pos (show i < 2 ^ 31 by omega), true_implies, false_implies, implies_true, not_true_eq_false, not_false_eq_true, not_true, not_false_iff, and_true, true_and, and_false, false_and, true_or, or_true, i1n0, i0e0]
    refine bo_eq hN (by omega) ?_
    simp only [ec', neq (show bc i < 2 ^ 31 by omega) (show cnt < 2 ^ 31 by omega), w_X12_layMoves_38, hv, true_implies, false_implies, implies_true, not_true_eq_false, not_false_eq_true, not_true, not_false_iff, and_true, true_and, and_false, false_and, true_or, or_true, i1n0, i0e0, forall_eq, nI_clamp (show i < 2 ^ 31 by omega), setJ_L, setLL, rdL]
    rw [← g68_s (show i < 2 ^ np by omega)] at hr
    obtain ⟨g, hg⟩ : ∃ g, N = g + 1 := ⟨N - 1, by omega⟩
    by_cases c1 : bc i = cnt
    · rw [show mvl s cnt np i = 0 from if_pos c1] at hr
      simp only [c1, true_implies, false_implies, implies_true, not_true_eq_false, not_false_eq_true, not_true, not_false_iff, and_true, true_and, and_false, false_and, true_or, or_true, i1n0, i0e0]
      rw [hg]
      simp only [w_X12_layMoves_41, en', ec', nle (show cnt < 2 ^ 31 by omega) (show cnt < 2 ^ 31 by omega), Nat.le_refl, true_implies, false_implies, implies_true, not_true_eq_false, not_false_eq_true, not_true, not_false_iff, and_true, true_and, and_false, false_and, true_or, or_true, i1n0, i0e0, forall_eq]
      rw [← hg]
      exact ⟨fun _ => hr, fun _ => hr⟩
    by_cases c2 : cnt < bc i
    · rw [show mvl s cnt np i = (-9223372036854775808) from by unfold mvl; rw [if_neg c1, if_pos c2]] at hr
      simp only [c1, true_implies, false_implies, implies_true, not_true_eq_false, not_false_eq_true, not_true, not_false_iff, and_true, true_and, and_false, false_and, true_or, or_true, i1n0, i0e0]
      rw [hg]
      simp only [w_X12_layMoves_41, en', ec', nle (show cnt < 2 ^ 31 by omega) (show bc i < 2 ^ 31 by omega), show cnt ≤ bc i by omega, true_implies, false_implies, implies_true, not_true_eq_false, not_false_eq_true, not_true, not_false_iff, and_true, true_and, and_false, false_and, true_or, or_true, i1n0, i0e0, forall_eq]
      rw [← hg]
      exact ⟨fun _ => hr, fun _ => hr⟩
    · rw [mvl_e (by omega), mv_s (by omega) hn8 c1] at hr
      simp only [c1, true_implies, false_implies, implies_true, not_true_eq_false, not_false_eq_true, not_true, not_false_iff, and_true, true_and, and_false, false_and, true_or, or_true, i1n0, i0e0]
      exact lm_lp hC hL hc7 hn8 ec en h5 h6 (by omega) (by omega) hr np 0 N (by omega) (by omega)
theorem lay_eq {N cnt np : Nat} {s T : Sx} {post : Sx → Prop} (hN : 20000 ≤ N) (hC : IC s) (hL : IL s) (hc7 : cnt ≤ 7) (hn8 : np ≤ 8) (ec : s.1 0 1 4 = nI cnt) (en : s.1 0 34 4 = nI np) (h5 : T.1 5 = s.1 5) (h6 : T.1 6 0 = s.1 6 0) (q : post (setL T 5 68 (g68 s T cnt np 0))) : w_X12_layMoves N T post := by
  have h256 := n256 hn8
  have en' : T.1 6 0 63 = nI np := by rw [h6, ← hL.1, en]
  simp only [w_X12_layMoves, forall_eq, en', one_sh np (by omega)]
  have hmain := ly_loop (N := N) hN hC hL hc7 hn8 ec en h5 h6 q (2 ^ np) N (Nat.le_refl _) (by omega)
  rw [setL_self] at hmain
  · exact hmain
  · funext u
    unfold g68
    rw [if_neg (by omega)]
theorem pl_lp {N cnt np t : Nat} {x1 : Int32} {s S : Sx} {post : Int32 → Sx → Prop} {K : Sx → Int32 → Int32 → Int32 → Int32 → Prop} (hC : IC s) (hL : IL s) (hc7 : cnt ≤ 7) (hn8 : np ≤ 8) (h6 : S.1 5 6 = s.1 5 6) (h7 : S.1 5 7 = s.1 5 7) (h64 : S.1 5 64 = s.1 5 64) (h65 : S.1 5 65 = s.1 5 65) (h66 : S.1 5 66 = s.1 5 66) (h67 : S.1 5 67 = s.1 5 67) (h68 : ∀ u, u < 2 ^ np → S.2.1 5 68 u = mvl s cnt np u) (ht : t < 2 ^ np) (hbc : bc t < cnt) (hm : ¬ mv s cnt np t = none) (q : K S x1 (nI (t ||| 2 ^ chs s cnt np t)) (nI (chs s cnt np t)) (nI (bc t + 1))) : ∀ m i fuel, i + m = chs s cnt np t → m < fuel → w_X12_placeOf_16 N post K fuel S x1 (nI t) (nI (bc t)) (nI i) := by
  have h256 := n256 hn8
  obtain ⟨g1, g2, g3, -⟩ := chs_e ht hn8 hbc hm
  have e67 : S.1 5 67 = s.1 0 38 := by rw [h67]; exact hL.2.2.2.2.2.1.symm
  have hv3 : vp_in (nI t) 256 := vp_in_nI (by omega) (by decide)
  have ht68 : S.2.1 5 68 t = e6 (mv s cnt np t) := by rw [h68 t ht, mvl_e (by omega)]
  intro m
  induction m with
  | zero =>
    intro i f h1 h2
    obtain ⟨f, rfl⟩ : ∃ g, f = g + 1 := ⟨f - 1, by omega⟩
    have hi : i = chs s cnt np t := by omega
    rw [← hi] at g2 q
    have hne : ¬ fr s cnt np t i = none := by rw [g2]; exact hm
    have hcc : ¬ (s.1 0 38 i = 0 ∨ bt t i = 1) := fun c => hne (if_pos c)
    have hf : fr s cnt np t i = (mv s cnt np (t ||| 2 ^ i)).map (fun v => (gn s (bc t) i).toInt + v) := if_neg hcc
    have c1 : ¬ s.1 0 38 i = 0 := fun c => hcc (Or.inl c)
    have c3 : bt t i = 0 := by rcases bt_01 t i with h | h; exact h; exact absurd (Or.inr h) hcc
    have n01 : ¬ nI 0 = 1 := by decide
    obtain ⟨b1, b2, b3⟩ := bc_or t (by omega) i (by omega) c3
    have hlt := or_lt (p := i) ht (by omega)
    have hv : vp_in (nI i) 8 := vp_in_nI (by omega) (by decide)
    have hv2 : vp_in (nI (t ||| 2 ^ i)) 256 := vp_in_nI b2 (by decide)
    have hel : S.2.1 5 68 (t ||| 2 ^ i) = e6 (mv s cnt np (t ||| 2 ^ i)) := by rw [h68 _ hlt, mvl_e (by omega)]
    simp only [w_X12_placeOf_16, e67, true_implies, false_implies, implies_true, not_true_eq_false, not_false_eq_true, not_true, not_false_iff, and_true, true_and, and_false, false_and, true_or, or_true, i1n0, i0e0, forall_eq, nI_1, hv, hv2, nI_clamp (show i < 2 ^ 31 by omega), nI_clamp (show t ||| 2 ^ i < 2 ^ 31 by omega), sh_bt t (by omega) i (by omega), or_bt t (by omega) i (by omega), lg_cmp_eq, c3, n01, c1, hel, e6_n (mv_i hC hL _)]
    rcases hmm : mv s cnt np (t ||| 2 ^ i) with _ | v
    · rw [hf, hmm] at hne; exact absurd rfl hne
    rw [hmm] at hf hel
    simp only [show (some v = none) = False from by simp, true_implies, false_implies, implies_true, not_true_eq_false, not_false_eq_true, not_true, not_false_iff, and_true, true_and, and_false, false_and, true_or, or_true, i1n0, i0e0]
    refine gn_m (s := s) hC hL (by omega) (by omega) h6 h7 h64 h65 h66 ?_
    rw [nI_clamp (show t < 2 ^ 31 by omega), hel, ht68, show (e6 (some v)) = Int64.ofInt v from rfl, gn6, ← g2, hf]
    simp only [Option.map_some, hv3, true_implies, false_implies, implies_true, not_true_eq_false, not_false_eq_true, not_true, not_false_iff, and_true, true_and, and_false, false_and, true_or, or_true, i1n0, i0e0]
    exact q
  | succ m ih =>
    intro i f h1 h2
    obtain ⟨f, rfl⟩ : ∃ g, f = g + 1 := ⟨f - 1, by omega⟩
    have hr := ih (i + 1) f (by omega) (by omega)
    have hg := g3 i (by omega)
    have hv : vp_in (nI i) 8 := vp_in_nI (by omega) (by decide)
    have n01 : ¬ nI 0 = 1 := by decide
    by_cases c2 : bt t i = 1
    · have : nI 1 = 1 := rfl
      simp only [w_X12_placeOf_16, true_implies, false_implies, implies_true, not_true_eq_false, not_false_eq_true, not_true, not_false_iff, and_true, true_and, and_false, false_and, true_or, or_true, i1n0, i0e0, forall_eq, nI_1, sh_bt t (by omega) i (by omega), c2, this]
      exact hr
    have c3 : bt t i = 0 := by rcases bt_01 t i with h | h; exact h; exact absurd h c2
    by_cases c1 : s.1 0 38 i = 0
    · simp only [w_X12_placeOf_16, e67, true_implies, false_implies, implies_true, not_true_eq_false, not_false_eq_true, not_true, not_false_iff, and_true, true_and, and_false, false_and, true_or, or_true, i1n0, i0e0, forall_eq, nI_1, hv, nI_clamp (show i < 2 ^ 31 by omega), sh_bt t (by omega) i (by omega), c3, n01, c1]
      exact hr
    have hf : fr s cnt np t i = (mv s cnt np (t ||| 2 ^ i)).map (fun v => (gn s (bc t) i).toInt + v) := if_neg (fun q => q.elim c1 c2)
    obtain ⟨b1, b2, b3⟩ := bc_or t (by omega) i (by omega) c3
    have hlt := or_lt (p := i) ht (by omega)
    have hv2 : vp_in (nI (t ||| 2 ^ i)) 256 := vp_in_nI b2 (by decide)
    have hel : S.2.1 5 68 (t ||| 2 ^ i) = e6 (mv s cnt np (t ||| 2 ^ i)) := by rw [h68 _ hlt, mvl_e (by omega)]
    simp only [w_X12_placeOf_16, e67, true_implies, false_implies, implies_true, not_true_eq_false, not_false_eq_true, not_true, not_false_iff, and_true, true_and, and_false, false_and, true_or, or_true, i1n0, i0e0, forall_eq, nI_1, hv, hv2, nI_clamp (show i < 2 ^ 31 by omega), nI_clamp (show t ||| 2 ^ i < 2 ^ 31 by omega), sh_bt t (by omega) i (by omega), or_bt t (by omega) i (by omega), lg_cmp_eq, c3, n01, c1, hel, e6_n (mv_i hC hL _)]
    rcases hmm : mv s cnt np (t ||| 2 ^ i) with _ | v
    · simp only [true_implies, false_implies, implies_true, not_true_eq_false, not_false_eq_true, not_true, not_false_iff, and_true, true_and, and_false, false_and, true_or, or_true, i1n0, i0e0]
      exact hr
    rw [hmm] at hf hel
    simp only [show (some v = none) = False from by simp, true_implies, false_implies, implies_true, not_true_eq_false, not_false_eq_true, not_true, not_false_iff, and_true, true_and, and_false, false_and, true_or, or_true, i1n0, i0e0]
    refine gn_m (s := s) hC hL (by omega) (by omega) h6 h7 h64 h65 h66 ?_
    rw [nI_clamp (show t < 2 ^ 31 by omega), hel, ht68, show (e6 (some v)) = Int64.ofInt v from rfl, gn6]
    rw [Option.map_some] at hf
    have hs := fr_i (cnt := cnt) (np := np) hC hL t i
    have hs2 := mv_i (cnt := cnt) (np := np) hC hL t
    have hne : ¬ e6 (some ((gn s (bc t) i).toInt + v)) = e6 (mv s cnt np t) := by
      intro e
      rcases hw : mv s cnt np t with _ | w
      · exact hm hw
      rw [hw] at e hg hs2
      rw [hf] at hg hs
      have := congrArg Int64.toInt e
      rw [show (e6 (some ((gn s (bc t) i).toInt + v))).toInt = _ from o6 hs, show (e6 (some w)).toInt = w from o6 hs2] at this
      exact hg (by rw [this])
    simp only [hv3, hne, true_implies, false_implies, implies_true, not_true_eq_false, not_false_eq_true, not_true, not_false_iff, and_true, true_and, and_false, false_and, true_or, or_true, i1n0, i0e0]
    exact hr
theorem pl_eq {N cnt np c : Nat} {s S : Sx} {post : Int32 → Sx → Prop} (hN : 20000 ≤ N) (hC : IC s) (hL : IL s) (hc7 : cnt ≤ 7) (hn8 : np ≤ 8) (h6 : S.1 5 6 = s.1 5 6) (h7 : S.1 5 7 = s.1 5 7) (h64 : S.1 5 64 = s.1 5 64) (h65 : S.1 5 65 = s.1 5 65) (h66 : S.1 5 66 = s.1 5 66) (h67 : S.1 5 67 = s.1 5 67) (h68 : ∀ u, u < 2 ^ np → S.2.1 5 68 u = mvl s cnt np u) (hc : c < cnt) (hm : ¬ mv s cnt np 0 = none) (q : post (nI (chc s cnt np c)) S) : w_X12_placeOf N (nI c) S post := by
  have l : ∀ m i fuel x3, i + m = c + 1 → m < fuel → (i = c + 1 → x3 = nI (chc s cnt np c)) → w_X12_placeOf_7 N post fuel S (nI c) (nI (pth s cnt np i)) x3 (nI i) := by
    intro m
    induction m with
    | zero =>
      intro i f x3 h1 h2 h3
      obtain ⟨f, rfl⟩ : ∃ g, f = g + 1 := ⟨f - 1, by omega⟩
      simp only [w_X12_placeOf_7, nlt (show c < 2 ^ 31 by omega) (show i < 2 ^ 31 by omega), show c < i by omega, true_implies, false_implies, implies_true, not_true_eq_false, not_false_eq_true, not_true, not_false_iff, and_true, true_and, and_false, false_and, true_or, or_true, i1n0, i0e0]
      rw [h3 (by omega)]
      exact q
    | succ m ih =>
      intro i f x3 h1 h2 h3
      obtain ⟨f, rfl⟩ : ∃ g, f = g + 1 := ⟨f - 1, by omega⟩
      obtain ⟨p1, p2, p3⟩ := pth_e hn8 hm i (by omega)
      obtain ⟨g1, -⟩ := chs_e p1 hn8 (by omega) p3
      simp only [w_X12_placeOf_7, nlt (show c < 2 ^ 31 by omega) (show i < 2 ^ 31 by omega), show ¬ c < i by omega, true_implies, false_implies, implies_true, not_true_eq_false, not_false_eq_true, not_true, not_false_iff, and_true, true_and, and_false, false_and, true_or, or_true, i1n0, i0e0]
      have hmain := pl_lp (N := N) (x1 := nI c) (post := post) (K := w_X12_placeOf_7 N post f) hC hL hc7 hn8 h6 h7 h64 h65 h66 h67 h68 p1 (by omega) p3 ?_ (chs s cnt np (pth s cnt np i)) 0 N (by omega) (by omega)
      · rw [p2] at hmain
        exact hmain
      · rw [p2]
        refine ih (i + 1) f _ (by omega) (by omega) (fun h => ?_)
        rw [show i = c by omega]
        rfl
  exact l (c + 1) 0 N 0 (by omega) (by omega) (fun h => by omega)
set_option maxHeartbeats 1000000 in
theorem cs_move {N k : Nat} {s : Sx} (hN : 20000 ≤ N) (hk : k ≤ 600) (hI : Inv k s) (x1 : Int32) (P : Int64 → Int64 → Sx → Prop) (hP : ∀ r s', Inv (k + 1) s' → P r r s') : w_X11_move N x1 s (fun r s1 => w_X12_move N x1 s1 (fun r2 s2 => P r r2 s2)) := by
  have hI2 := hI.up
  obtain ⟨hIC, hIM, hIP, hIZ, hIR, hIY, hIW, hIT, hIF, hIL, hIS⟩ := id hI
  obtain ⟨c1, c2, -⟩ := id hIC
  obtain ⟨l1, l2, -⟩ := id hIL
  obtain ⟨cnt, hc7, ec⟩ := wi_n (n := 7) (by decide) c2
  obtain ⟨np, hn8, en⟩ := wi_n (n := 8) (by decide) l2
  have hv0 : vp_in 0 256 := vp_in_nI (n := 0) (by decide) (by decide)
  have hp2 : 0 < 2 ^ np := Nat.two_pow_pos np
  have z1 : ∀ (r : Int64) (f : Nat → Int64), P r r (setL (sC s cnt np cnt) 5 68 f) := by
    intro r f
    exact hP _ _ ⟨(IC.of rfl rfl rfl rfl rfl rfl rfl rfl rfl rfl hIC), (IM.of rfl rfl hIM), (IP.of rfl rfl rfl rfl rfl rfl rfl rfl rfl rfl hIP), (IZ.of rfl rfl rfl rfl hIZ), (IR.of rfl rfl rfl rfl rfl rfl rfl rfl rfl rfl rfl rfl rfl rfl hIR), (IY.of rfl rfl rfl rfl rfl rfl rfl rfl rfl rfl rfl rfl rfl rfl hIY), (IW.of rfl rfl rfl rfl rfl rfl rfl rfl rfl rfl rfl rfl rfl rfl rfl rfl rfl rfl rfl rfl rfl rfl rfl hIW.up), (IT.of rfl rfl rfl rfl rfl rfl rfl rfl rfl rfl rfl rfl hIT), (IF.of rfl rfl rfl rfl rfl rfl rfl rfl rfl rfl hIF), (IL.of rfl rfl rfl rfl rfl rfl rfl rfl rfl rfl hIL), (IS.of rfl rfl rfl rfl rfl rfl rfl rfl rfl rfl rfl hIS)⟩
  have z0 : ∀ (r : Int64) (f : Nat → Int64), P r r (setL (setA s 0 39 (f39 s cnt np 0)) 5 68 f) := by
    intro r f
    exact hP _ _ ⟨(IC.of rfl rfl rfl rfl rfl rfl rfl rfl rfl rfl hIC), (IM.of rfl rfl hIM), (IP.of rfl rfl rfl rfl rfl rfl rfl rfl rfl rfl hIP), (IZ.of rfl rfl rfl rfl hIZ), (IR.of rfl rfl rfl rfl rfl rfl rfl rfl rfl rfl rfl rfl rfl rfl hIR), (IY.of rfl rfl rfl rfl rfl rfl rfl rfl rfl rfl rfl rfl rfl rfl hIY), (IW.of rfl rfl rfl rfl rfl rfl rfl rfl rfl rfl rfl rfl rfl rfl rfl rfl rfl rfl rfl rfl rfl rfl rfl hIW.up), (IT.of rfl rfl rfl rfl rfl rfl rfl rfl rfl rfl rfl rfl hIT), (IF.of rfl rfl rfl rfl rfl rfl rfl rfl rfl rfl hIF), (IL.of rfl rfl rfl rfl rfl rfl rfl rfl rfl rfl hIL), (IS.of rfl rfl rfl rfl rfl rfl rfl rfl rfl rfl rfl hIS)⟩
  have hw : ¬ x1 = (-1) → (wi x1 (-1) (nI cnt - 1) ↔ wi x1 0 (nI cnt - 1)) := by
    intro hne
    rw [wi_i, wi_i, show (-1 : Int32).toInt = -1 from by decide, show (0 : Int32).toInt = 0 from by decide]
    have : ¬ x1.toInt = -1 := fun e => hne (Int32.toInt_inj.mp (by rw [e]; decide))
    omega
  have g0 : ∀ T : Sx, (setL T 5 68 (g68 s T cnt np 0)).2.1 5 68 (0 : Int32).toNatClampNeg = e6 (mv s cnt np 0) := fun T => by
    rw [rdL]
    show g68 s T cnt np 0 0 = _
    unfold g68
    rw [if_pos ⟨Nat.le_refl _, hp2⟩, mvl_e (by show 0 ≤ cnt; omega)]
  have gu : ∀ T : Sx, ∀ u, u < 2 ^ np → (setL T 5 68 (g68 s T cnt np 0)).2.1 5 68 u = mvl s cnt np u := fun T u hu => by
    rw [rdL]
    unfold g68
    rw [if_pos (by omega)]
  by_cases hx : x1 = (-1)
  · subst hx
    have hwm : wi (-1) (-1) (nI cnt - 1) := by
      have hs : (nI cnt - 1).toInt = (cnt : Int) - 1 := by
        rw [show (1 : Int32) = nI 1 from rfl, pk_sub_toInt (by omega) (by omega)]; omega
      rw [wi_i, hs, show (-1 : Int32).toInt = -1 from by decide]
      omega
    simp only [w_X11_move, w_X11_move_20, true_implies, false_implies, implies_true, not_true_eq_false, not_false_eq_true, not_true, not_false_iff, and_true, true_and, and_false, false_and, true_or, or_true, i1n0, i0e0]
    refine fbm_eq hN hIC hIL hc7 hn8 ec en (fun hm => ?_) (fun hm => ?_)
    · have e39 : (sC s cnt np cnt).1 0 39 (0 : Int32).toNatClampNeg = e3 (mv s cnt np 0) := by
        show f39 s cnt np 0 0 = _
        unfold f39
        rw [if_pos ⟨Nat.le_refl _, hp2⟩, cv_e (by show 0 ≤ cnt; omega)]
      simp only [true_implies, false_implies, implies_true, not_true_eq_false, not_false_eq_true, not_true, not_false_iff, and_true, true_and, and_false, false_and, true_or, or_true, i1n0, i0e0, w_X5_bestGain, hv0, e39, w_X12_move, wm_eq]
      rw [show (sC s cnt np cnt).1 6 0 5 = nI cnt from by show s.1 6 0 5 = _; rw [← c1, ec]]
      simp only [hwm, true_implies, false_implies, implies_true, not_true_eq_false, not_false_eq_true, not_true, not_false_iff, and_true, true_and, and_false, false_and, true_or, or_true, i1n0, i0e0]
      refine lay_eq hN hIC hIL hc7 hn8 ec en rfl rfl ?_
      rw [g0]
      have hsm := mv_i (cnt := cnt) (np := np) hIC hIL 0
      rcases hv : mv s cnt np 0 with _ | v
      · exact absurd hv hm
      rw [hv] at hsm
      rw [show (e3 (some v)).toInt64 = e6 (some v) from by
        apply Int64.toInt_inj.mp
        rw [Int32.toInt_toInt64, show (e3 (some v)).toInt = v from o3 hsm, show (e6 (some v)).toInt = v from o6 hsm]]
      exact z1 _ _
    · simp only [true_implies, false_implies, implies_true, not_true_eq_false, not_false_eq_true, not_true, not_false_iff, and_true, true_and, and_false, false_and, true_or, or_true, i1n0, i0e0, w_X12_move, wm_eq]
      rw [show (setA s 0 39 (f39 s cnt np 0)).1 6 0 5 = nI cnt from by show s.1 6 0 5 = _; rw [← c1, ec]]
      simp only [hwm, true_implies, false_implies, implies_true, not_true_eq_false, not_false_eq_true, not_true, not_false_iff, and_true, true_and, and_false, false_and, true_or, or_true, i1n0, i0e0, hv0]
      refine lay_eq hN hIC hIL hc7 hn8 ec en rfl rfl ?_
      rw [g0, hm]
      exact z0 _ _
  · simp only [w_X11_move, hx, true_implies, false_implies, implies_true, not_true_eq_false, not_false_eq_true, not_true, not_false_iff, and_true, true_and, and_false, false_and, true_or, or_true, i1n0, i0e0, w_X0_has, wi_eq, ec]
    by_cases h1 : wi x1 0 (nI cnt - 1)
    case neg =>
      have h2 : ¬ wi x1 (-1) (nI cnt - 1) := fun q => h1 ((hw hx).mp q)
      simp only [h1, true_implies, false_implies, implies_true, not_true_eq_false, not_false_eq_true, not_true, not_false_iff, and_true, true_and, and_false, false_and, true_or, or_true, i1n0, i0e0, w_X12_move, wm_eq, ← c1, ec, h2]
      exact hP _ _ hI2
    have h2 : wi x1 (-1) (nI cnt - 1) := (hw hx).mpr h1
    have hc2 : wi (nI cnt) 0 7 := wi_nI (M := 7) hc7 (by decide)
    obtain ⟨j, rfl, hj1, hj2, hj3, hj4⟩ := inC (M := 7) (by decide) hc2 h1
    rw [nI_clamp (by omega)] at hj1
    simp only [h1, true_implies, false_implies, implies_true, not_true_eq_false, not_false_eq_true, not_true, not_false_iff, and_true, true_and, and_false, false_and, true_or, or_true, i1n0, i0e0, w_X11_move_20, hx]
    refine fbm_eq hN hIC hIL hc7 hn8 ec en (fun hm => ?_) (fun hm => ?_)
    · have e40 : (sC s cnt np cnt).1 0 40 j = nI (chc s cnt np j) := by
        show f40 s cnt np cnt j = _
        unfold f40
        rw [if_pos (by omega)]
      simp only [true_implies, false_implies, implies_true, not_true_eq_false, not_false_eq_true, not_true, not_false_iff, and_true, true_and, and_false, false_and, true_or, or_true, i1n0, i0e0, hj3, hj4, e40, w_X12_move, wm_eq]
      rw [show (sC s cnt np cnt).1 6 0 5 = nI cnt from by show s.1 6 0 5 = _; rw [← c1, ec]]
      simp only [h2, hx, true_implies, false_implies, implies_true, not_true_eq_false, not_false_eq_true, not_true, not_false_iff, and_true, true_and, and_false, false_and, true_or, or_true, i1n0, i0e0, hv0]
      refine lay_eq hN hIC hIL hc7 hn8 ec en rfl rfl ?_
      rw [g0]
      simp only [lg_cmp_eq, e6_n (mv_i (cnt := cnt) (np := np) hIC hIL 0), hm, true_implies, false_implies, implies_true, not_true_eq_false, not_false_eq_true, not_true, not_false_iff, and_true, true_and, and_false, false_and, true_or, or_true, i1n0, i0e0]
      refine pl_eq hN hIC hIL hc7 hn8 rfl rfl rfl rfl rfl rfl (gu _) hj1 hm ?_
      exact z1 _ _
    · simp only [true_implies, false_implies, implies_true, not_true_eq_false, not_false_eq_true, not_true, not_false_iff, and_true, true_and, and_false, false_and, true_or, or_true, i1n0, i0e0, w_X12_move, wm_eq]
      rw [show (setA s 0 39 (f39 s cnt np 0)).1 6 0 5 = nI cnt from by show s.1 6 0 5 = _; rw [← c1, ec]]
      simp only [h2, hx, true_implies, false_implies, implies_true, not_true_eq_false, not_false_eq_true, not_true, not_false_iff, and_true, true_and, and_false, false_and, true_or, or_true, i1n0, i0e0, hv0]
      refine lay_eq hN hIC hIL hc7 hn8 ec en rfl rfl ?_
      rw [g0, hm]
      have : e6 none = (-9223372036854775808) := rfl
      simp only [lg_cmp_eq, this, true_implies, false_implies, implies_true, not_true_eq_false, not_false_eq_true, not_true, not_false_iff, and_true, true_and, and_false, false_and, true_or, or_true, i1n0, i0e0]
      exact z0 _ _
noncomputable def fX (s : Sx) (cnt np a b c : Nat) : Nat → Int32 := fun i => if i < c then s.1 0 a (chc s cnt np i) else s.1 0 b i
noncomputable def sG (s : Sx) (cnt np c : Nat) : Sx := setA (setA (sC s cnt np cnt) 0 2 (fX s cnt np 35 2 c)) 0 3 (fX s cnt np 36 3 c)
theorem sG_s {s : Sx} {cnt np c : Nat} : setI (setI (sG s cnt np c) 0 2 c (s.1 0 35 (chc s cnt np c))) 0 3 c (s.1 0 36 (chc s cnt np c)) = sG s cnt np (c + 1) := by
  unfold sG
  refine Prod.ext ?_ rfl
  funext k j
  simp only [rdI, rdA]
  by_cases hk : k = 0
  · by_cases h3 : j = 3
    · subst h3
      simp only [hk, Nat.reduceEqDiff, and_self, if_true, and_false, if_false]
      exact upd_cp (f := fun i => s.1 0 36 (chc s cnt np i)) rfl
    · by_cases h2 : j = 2
      · subst h2
        simp only [hk, Nat.reduceEqDiff, and_self, if_true, and_false, if_false]
        exact upd_cp (f := fun i => s.1 0 35 (chc s cnt np i)) rfl
      · simp [hk, h2, h3]
  · simp [hk]
theorem mc_loop {N cnt np : Nat} {s : Sx} {post : Sx → Prop} (hc7 : cnt ≤ 7) (hn8 : np ≤ 8) (ec : s.1 0 1 4 = nI cnt) (hm : ¬ mv s cnt np 0 = none) (q : post (sG s cnt np cnt)) : ∀ m c fuel, c + m = cnt → m < fuel → w_X5_moveCamps_2 N post fuel (sG s cnt np c) (nI c) := by
  have ec' : ∀ c, (sG s cnt np c).1 0 1 4 = nI cnt := fun c => ec
  intro m
  induction m with
  | zero =>
    intro i f h1 h2
    obtain ⟨f, rfl⟩ : ∃ g, f = g + 1 := ⟨f - 1, by omega⟩
    have hi : i = cnt := by omega
    subst hi
    simp only [w_X5_moveCamps_2, ec', nle (show i < 2 ^ 31 by omega) (show i < 2 ^ 31 by omega), Nat.le_refl, true_implies, false_implies, implies_true, not_true_eq_false, not_false_eq_true, not_true, not_false_iff, and_true, true_and, and_false, false_and, true_or, or_true, i1n0, i0e0]
    exact q
  | succ m ih =>
    intro c f h1 h2
    obtain ⟨f, rfl⟩ : ∃ g, f = g + 1 := ⟨f - 1, by omega⟩
    have hr := ih (c + 1) f (by omega) (by omega)
    obtain ⟨p1, p2, p3⟩ := pth_e hn8 hm c (by omega)
    obtain ⟨g1, -⟩ := chs_e p1 hn8 (by omega) p3
    have g1' : chc s cnt np c < np := g1
    have hv : vp_in (nI c) 7 := vp_in_nI (by omega) (by decide)
    have hv2 : vp_in (nI (chc s cnt np c)) 8 := vp_in_nI (by omega) (by decide)
    have e40 : (sG s cnt np c).1 0 40 c = nI (chc s cnt np c) := by
      show f40 s cnt np cnt c = _
      unfold f40
      rw [if_pos (by omega)]
    have e35 : (sG s cnt np c).1 0 35 = s.1 0 35 := rfl
    have e36 : (setI (sG s cnt np c) 0 2 c (s.1 0 35 (chc s cnt np c))).1 0 36 = s.1 0 36 := rfl
    have e40b : (setI (sG s cnt np c) 0 2 c (s.1 0 35 (chc s cnt np c))).1 0 40 c = nI (chc s cnt np c) := e40
    simp only [w_X5_moveCamps_2, ec', nle (show cnt < 2 ^ 31 by omega) (show c < 2 ^ 31 by omega), show ¬ cnt ≤ c by omega, true_implies, false_implies, implies_true, not_true_eq_false, not_false_eq_true, not_true, not_false_iff, and_true, true_and, and_false, false_and, true_or, or_true, i1n0, i0e0, hv, hv2, nI_clamp (show c < 2 ^ 31 by omega), nI_clamp (show chc s cnt np c < 2 ^ 31 by omega), forall_eq, nI_1, e40, e35, e36, e40b]
    rw [sG_s]
    exact hr
noncomputable def fT (s U : Sx) (cnt np a b c : Nat) : Nat → Int32 := fun i => if i < c then s.1 5 a (chc s cnt np i) else U.1 5 b i
noncomputable def sM (s U : Sx) (cnt np c : Nat) : Sx := setA (setA U 5 69 (fT s U cnt np 64 69 c)) 5 70 (fT s U cnt np 65 70 c)
theorem sM_s {s U : Sx} {cnt np c : Nat} : setI (setI (sM s U cnt np c) 5 69 c (s.1 5 64 (chc s cnt np c))) 5 70 c (s.1 5 65 (chc s cnt np c)) = sM s U cnt np (c + 1) := by
  unfold sM
  refine Prod.ext ?_ rfl
  funext k j
  simp only [rdI, rdA]
  by_cases hk : k = 5
  · by_cases h3 : j = 70
    · subst h3
      simp only [hk, Nat.reduceEqDiff, and_self, if_true, and_false, if_false]
      exact upd_cp (f := fun i => s.1 5 65 (chc s cnt np i)) rfl
    · by_cases h2 : j = 69
      · subst h2
        simp only [hk, Nat.reduceEqDiff, and_self, if_true, and_false, if_false]
        exact upd_cp (f := fun i => s.1 5 64 (chc s cnt np i)) rfl
      · simp [hk, h2, h3]
  · simp [hk]
noncomputable def sN2 (U : Sx) (c : Nat) : Sx := setA (setA U 5 6 (fun i => if i < c then U.1 5 69 i else U.1 5 6 i)) 5 7 (fun i => if i < c then U.1 5 70 i else U.1 5 7 i)
theorem sN2_s {U : Sx} {c : Nat} : setI (setI (sN2 U c) 5 6 c (U.1 5 69 c)) 5 7 c (U.1 5 70 c) = sN2 U (c + 1) := by
  unfold sN2
  refine Prod.ext ?_ rfl
  funext k j
  simp only [rdI, rdA]
  by_cases hk : k = 5
  · by_cases h3 : j = 7
    · subst h3
      simp only [hk, Nat.reduceEqDiff, and_self, if_true, and_false, if_false]
      exact upd_cp (f := U.1 5 70) rfl
    · by_cases h2 : j = 6
      · subst h2
        simp only [hk, Nat.reduceEqDiff, and_self, if_true, and_false, if_false]
        exact upd_cp (f := U.1 5 69) rfl
      · simp [hk, h2, h3]
  · simp [hk]
theorem g6_loop {N cnt : Nat} {U : Sx} {post : Int32 → Sx → Prop} (hc7 : cnt ≤ 7) (ec : U.1 6 0 5 = nI cnt) (q : post 1 (sN2 U cnt)) : ∀ m c fuel, c + m = cnt → m < fuel → w_X12_go_68 N post fuel (sN2 U c) (nI c) := by
  have ec' : ∀ c, (sN2 U c).1 6 0 5 = nI cnt := fun c => ec
  intro m
  induction m with
  | zero =>
    intro i f h1 h2
    obtain ⟨f, rfl⟩ : ∃ g, f = g + 1 := ⟨f - 1, by omega⟩
    have hi : i = cnt := by omega
    subst hi
    simp only [w_X12_go_68, ec', nle (show i < 2 ^ 31 by omega) (show i < 2 ^ 31 by omega), Nat.le_refl, true_implies, false_implies, implies_true, not_true_eq_false, not_false_eq_true, not_true, not_false_iff, and_true, true_and, and_false, false_and, true_or, or_true, i1n0, i0e0]
    exact q
  | succ m ih =>
    intro c f h1 h2
    obtain ⟨f, rfl⟩ : ∃ g, f = g + 1 := ⟨f - 1, by omega⟩
    have hr := ih (c + 1) f (by omega) (by omega)
    have hv : vp_in (nI c) 7 := vp_in_nI (by omega) (by decide)
    have e69 : (sN2 U c).1 5 69 = U.1 5 69 := rfl
    have e70 : (setI (sN2 U c) 5 6 c (U.1 5 69 c)).1 5 70 = U.1 5 70 := rfl
    simp only [w_X12_go_68, ec', nle (show cnt < 2 ^ 31 by omega) (show c < 2 ^ 31 by omega), show ¬ cnt ≤ c by omega, true_implies, false_implies, implies_true, not_true_eq_false, not_false_eq_true, not_true, not_false_iff, and_true, true_and, and_false, false_and, true_or, or_true, i1n0, i0e0, hv, nI_clamp (show c < 2 ^ 31 by omega), forall_eq, nI_1, e69, e70]
    rw [sN2_s]
    exact hr
theorem g2_loop {N cnt np : Nat} {s U : Sx} {post : Int32 → Sx → Prop} (hN : 20000 ≤ N) (hC : IC s) (hL : IL s) (hc7 : cnt ≤ 7) (hn8 : np ≤ 8) (ec : U.1 6 0 5 = nI cnt) (h5 : U.1 5 = s.1 5) (h68 : ∀ u, u < 2 ^ np → U.2.1 5 68 u = mvl s cnt np u) (hm : ¬ mv s cnt np 0 = none) (q : post 1 (sN2 (sM s U cnt np cnt) cnt)) : ∀ m c fuel, c + m = cnt → m < fuel → w_X12_go_22 N post fuel (sM s U cnt np c) (nI c) := by
  have ec' : ∀ c, (sM s U cnt np c).1 6 0 5 = nI cnt := fun c => ec
  intro m
  induction m with
  | zero =>
    intro i f h1 h2
    obtain ⟨f, rfl⟩ : ∃ g, f = g + 1 := ⟨f - 1, by omega⟩
    have hi : i = cnt := by omega
    subst hi
    simp only [w_X12_go_22, ec', nle (show i < 2 ^ 31 by omega) (show i < 2 ^ 31 by omega), Nat.le_refl, true_implies, false_implies, implies_true, not_true_eq_false, not_false_eq_true, not_true, not_false_iff, and_true, true_and, and_false, false_and, true_or, or_true, i1n0, i0e0]
    have hmain := g6_loop (N := N) hc7 (ec' i) q i 0 N (by omega) (by omega)
    have e : sN2 (sM s U i np i) 0 = sM s U i np i := by
      unfold sN2
      rw [setA_self _ 5 7 _ (by funext x; rw [if_neg (by omega)]; rfl), setA_self _ 5 6 _ (by funext x; rw [if_neg (by omega)])]
    rw [e] at hmain
    exact hmain
  | succ m ih =>
    intro c f h1 h2
    obtain ⟨f, rfl⟩ : ∃ g, f = g + 1 := ⟨f - 1, by omega⟩
    have hr := ih (c + 1) f (by omega) (by omega)
    obtain ⟨p1, p2, p3⟩ := pth_e hn8 hm c (by omega)
    obtain ⟨g1, -⟩ := chs_e p1 hn8 (by omega) p3
    have g1' : chc s cnt np c < np := g1
    have hv : vp_in (nI c) 7 := vp_in_nI (by omega) (by decide)
    have hv2 : vp_in (nI (chc s cnt np c)) 8 := vp_in_nI (by omega) (by decide)
    simp only [w_X12_go_22, ec', nle (show cnt < 2 ^ 31 by omega) (show c < 2 ^ 31 by omega), show ¬ cnt ≤ c by omega, true_implies, false_implies, implies_true, not_true_eq_false, not_false_eq_true, not_true, not_false_iff, and_true, true_and, and_false, false_and, true_or, or_true, i1n0, i0e0]
    have e5 : ∀ n, n < 69 → (sM s U cnt np c).1 5 n = s.1 5 n := fun n hn => by
      unfold sM
      rw [rdA, if_neg (by omega), rdA, if_neg (by omega), h5]
    refine pl_eq hN hC hL hc7 hn8 (e5 6 (by decide)) (e5 7 (by decide)) (e5 64 (by decide)) (e5 65 (by decide)) (e5 66 (by decide)) (e5 67 (by decide)) (fun u hu => h68 u hu) (by omega) hm ?_
    have e65 : (setI (sM s U cnt np c) 5 69 c (s.1 5 64 (chc s cnt np c))).1 5 65 = s.1 5 65 := e5 65 (by decide)
    simp only [hv, hv2, nI_clamp (show c < 2 ^ 31 by omega), nI_clamp (show chc s cnt np c < 2 ^ 31 by omega), forall_eq, nI_1, true_implies, false_implies, implies_true, not_true_eq_false, not_false_eq_true, not_true, not_false_iff, and_true, true_and, and_false, false_and, true_or, or_true, i1n0, i0e0, e5 64 (by decide), e65]
    rw [sM_s]
    exact hr
set_option maxHeartbeats 1000000 in
theorem cs_go {N k : Nat} {s : Sx} (hN : 20000 ≤ N) (hk : k ≤ 600) (hI : Inv k s)  (P : Int32 → Int32 → Sx → Prop) (hP : ∀ r s', Inv (k + 1) s' → P r r s') : w_X11_go N  s (fun r s1 => w_X12_go N  s1 (fun r2 s2 => P r r2 s2)) := by
  have hI2 := hI.up
  obtain ⟨hIC, hIM, hIP, hIZ, hIR, hIY, hIW, hIT, hIF, hIL, hIS⟩ := id hI
  obtain ⟨c1, c2, c3, c4, c5, c6, r1, r2, r3, r4, c8⟩ := id hIC
  obtain ⟨l1, l2, l3, l4, l5, l6, m1, m2, m3, m4⟩ := id hIL
  obtain ⟨cnt, hc7, ec⟩ := wi_n (n := 7) (by decide) c2
  obtain ⟨np, hn8, en⟩ := wi_n (n := 8) (by decide) l2
  have hv0 : vp_in 0 256 := vp_in_nI (n := 0) (by decide) (by decide)
  have hp2 : 0 < 2 ^ np := Nat.two_pow_pos np
  have g0 : ∀ T : Sx, (setL T 5 68 (g68 s T cnt np 0)).2.1 5 68 (0 : Int32).toNatClampNeg = e6 (mv s cnt np 0) := fun T => by
    rw [rdL]
    show g68 s T cnt np 0 0 = _
    unfold g68
    rw [if_pos ⟨Nat.le_refl _, hp2⟩, mvl_e (by show 0 ≤ cnt; omega)]
  have gu : ∀ T : Sx, ∀ u, u < 2 ^ np → (setL T 5 68 (g68 s T cnt np 0)).2.1 5 68 u = mvl s cnt np u := fun T u hu => by
    rw [rdL]
    unfold g68
    rw [if_pos (by omega)]
  unfold w_X11_go
  refine fbm_eq hN hIC hIL hc7 hn8 ec en (fun hm => ?_) (fun hm => ?_)
  · simp only [true_implies, false_implies, implies_true, not_true_eq_false, not_false_eq_true, not_true, not_false_iff, and_true, true_and, and_false, false_and, true_or, or_true, i1n0, i0e0, w_X5_moveCamps]
    have e : sC s cnt np cnt = sG s cnt np 0 := by
      unfold sG
      rw [setA_self _ 0 3 _ (by funext x; unfold fX; rw [if_neg (by omega)]; rfl), setA_self _ 0 2 _ (by funext x; unfold fX; rw [if_neg (by omega)]; rfl)]
    rw [e]
    refine mc_loop hc7 hn8 ec hm ?_ cnt 0 N (by omega) (by omega)
    unfold w_X12_go
    refine lay_eq hN hIC hIL hc7 hn8 ec en rfl rfl ?_
    rw [g0]
    simp only [lg_cmp_eq, e6_n (mv_i (cnt := cnt) (np := np) hIC hIL 0), hm, true_implies, false_implies, implies_true, not_true_eq_false, not_false_eq_true, not_true, not_false_iff, and_true, true_and, and_false, false_and, true_or, or_true, i1n0, i0e0, hv0]
    generalize hU : setL (sG s cnt np cnt) 5 68 (g68 s (sG s cnt np cnt) cnt np 0) = U
    have hU6 : U.1 6 0 5 = nI cnt := by rw [← hU]; show s.1 6 0 5 = _; rw [← c1, ec]
    have hU5 : U.1 5 = s.1 5 := by rw [← hU]; rfl
    have hU68 : ∀ u, u < 2 ^ np → U.2.1 5 68 u = mvl s cnt np u := by rw [← hU]; exact gu _
    have eM : U = sM s U cnt np 0 := by
      unfold sM
      rw [setA_self _ 5 70 _ (by funext x; unfold fT; rw [if_neg (by omega)]; rfl), setA_self _ 5 69 _ (by funext x; unfold fT; rw [if_neg (by omega)])]
    have hmain := g2_loop (N := N) (post := fun r2 s2 => P 1 r2 s2) hN hIC hIL hc7 hn8 hU6 hU5 hU68 hm ?_ cnt 0 N (by omega) (by omega)
    · rw [← eM] at hmain
      exact hmain
    · rw [← hU]
      refine hP _ _ ⟨?_, (IM.of rfl rfl hIM), (IP.of rfl rfl rfl rfl rfl rfl rfl rfl rfl rfl hIP), (IZ.of rfl rfl rfl rfl hIZ), (IR.of rfl rfl rfl rfl rfl rfl rfl rfl rfl rfl rfl rfl rfl rfl hIR), (IY.of rfl rfl rfl rfl rfl rfl rfl rfl rfl rfl rfl rfl rfl rfl hIY), (IW.of rfl rfl rfl rfl rfl rfl rfl rfl rfl rfl rfl rfl rfl rfl rfl rfl rfl rfl rfl rfl rfl rfl rfl hIW.up), (IT.of rfl rfl rfl rfl rfl rfl rfl rfl rfl rfl rfl rfl hIT), (IF.of rfl rfl rfl rfl rfl rfl rfl rfl rfl rfl hIF), (IL.of rfl rfl rfl rfl rfl rfl rfl rfl rfl rfl hIL), (IS.of rfl rfl rfl rfl rfl rfl rfl rfl rfl rfl rfl hIS)⟩
      have hx : ∀ a b : Nat, (∀ x, wi (s.1 0 a x) 0 40) → (∀ x, wi (s.1 0 b x) 0 40) → al (fX s cnt np a b cnt) 0 40 := by
        intro a b ha hb i
        unfold fX
        by_cases c : i < cnt
        · rw [if_pos c]; exact ha _
        · rw [if_neg c]; exact hb _
      refine ⟨c1, c2, ?_, ?_, c5, c6, hx 35 2 m1 r1, hx 36 3 m2 r2, r3, r4, c8⟩
      · show fX s cnt np 35 2 cnt = fun i => if i < cnt then (if i < cnt then s.1 5 64 (chc s cnt np i) else _) else s.1 5 6 i
        funext i
        unfold fX
        by_cases c : i < cnt
        · rw [if_pos c, if_pos c, if_pos c, l3]
        · rw [if_neg c, if_neg c, c3]
      · show fX s cnt np 36 3 cnt = fun i => if i < cnt then (if i < cnt then s.1 5 65 (chc s cnt np i) else _) else s.1 5 7 i
        funext i
        unfold fX
        by_cases c : i < cnt
        · rw [if_pos c, if_pos c, if_pos c, l4]
        · rw [if_neg c, if_neg c, c4]
  · simp only [true_implies, false_implies, implies_true, not_true_eq_false, not_false_eq_true, not_true, not_false_iff, and_true, true_and, and_false, false_and, true_or, or_true, i1n0, i0e0, w_X12_go]
    refine lay_eq hN hIC hIL hc7 hn8 ec en rfl rfl ?_
    rw [g0, hm]
    have : e6 none = (-9223372036854775808) := rfl
    simp only [lg_cmp_eq, this, true_implies, false_implies, implies_true, not_true_eq_false, not_false_eq_true, not_true, not_false_iff, and_true, true_and, and_false, false_and, true_or, or_true, i1n0, i0e0, hv0]
    exact hP _ _ ⟨(IC.of rfl rfl rfl rfl rfl rfl rfl rfl rfl rfl hIC), (IM.of rfl rfl hIM), (IP.of rfl rfl rfl rfl rfl rfl rfl rfl rfl rfl hIP), (IZ.of rfl rfl rfl rfl hIZ), (IR.of rfl rfl rfl rfl rfl rfl rfl rfl rfl rfl rfl rfl rfl rfl hIR), (IY.of rfl rfl rfl rfl rfl rfl rfl rfl rfl rfl rfl rfl rfl rfl hIY), (IW.of rfl rfl rfl rfl rfl rfl rfl rfl rfl rfl rfl rfl rfl rfl rfl rfl rfl rfl rfl rfl rfl rfl rfl hIW.up), (IT.of rfl rfl rfl rfl rfl rfl rfl rfl rfl rfl rfl rfl hIT), (IF.of rfl rfl rfl rfl rfl rfl rfl rfl rfl rfl hIF), (IL.of rfl rfl rfl rfl rfl rfl rfl rfl rfl rfl hIL), (IS.of rfl rfl rfl rfl rfl rfl rfl rfl rfl rfl rfl hIS)⟩
