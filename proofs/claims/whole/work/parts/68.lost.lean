/-! calls, as the reference has them -/
def LM (V T : Sx) : Prop := T.2 = V.2 ∧ (∀ k, k ≠ 5 → T.1 k = V.1 k) ∧ ∀ n, n ≠ 61 → n ≠ 62 → T.1 5 n = V.1 5 n
theorem LM.refl (V : Sx) : LM V V := ⟨rfl, fun _ _ => rfl, fun _ _ _ => rfl⟩
theorem LM.trans {s S U : Sx} (h : LM s S) (g : LM S U) : LM s U := ⟨g.1.trans h.1, fun k hk => (g.2.1 k hk).trans (h.2.1 k hk), fun n n0 n1 => (g.2.2 n n0 n1).trans (h.2.2 n n0 n1)⟩
theorem LM.set {V T : Sx} {n i : Nat} {v : Int32} (h : LM V T) (hn : n = 61 ∨ n = 62) : LM V (setI T 5 n i v) := by
  obtain ⟨h1, h2, h3⟩ := h
  refine ⟨h1, fun k hk => ?_, fun m m0 m1 => ?_⟩
  · funext u; rw [rdI, if_neg (by omega), h2 k hk]
  · rw [rdI, if_neg (by omega)]; exact h3 m m0 m1
theorem ly_in {N cnt nfi c : Nat} {s V : Sx} {post : Sx → Prop} {K : Sx → Int32 → Prop} (hC : IC s) (hF : IF s) (hc7 : c < 7) (hn3 : nfi ≤ 3) (en : s.1 0 25 4 = nI nfi) (h5 : V.1 5 = s.1 5) (h6 : V.1 6 0 = s.1 6 0) (g : ∀ T, LM V T → (∀ c' f', f' < nfi → c' < c + 1 → T.1 5 62 (3 * c' + f') = nI (hrn s f' c')) → K T (nI (c + 1))) : ∀ m i fuel (T : Sx), i + m = nfi → m < fuel → LM V T → (∀ c' f', f' < nfi → (c' < c ∨ c' = c ∧ f' < i) → T.1 5 62 (3 * c' + f') = nI (hrn s f' c')) → w_X12_layHours_12 N post K fuel T (nI c) (nI i) := by
  intro m
  induction m with
  | zero =>
    intro i fuel T hm hfu h hd
    obtain ⟨fu, rfl⟩ : ∃ g, fuel = g + 1 := ⟨fuel - 1, by omega⟩
    have hi : i = nfi := by omega
    subst hi
    have en' : T.1 6 0 55 = nI i := by rw [h.2.1 6 (by decide), h6, ← hF.1, en]
    simp only [w_X12_layHours_12, en', nle (show i < 2 ^ 31 by omega) (show i < 2 ^ 31 by omega), Nat.le_refl, true_implies, false_implies, implies_true, not_true_eq_false, not_false_eq_true, not_true, not_false_iff, and_true, true_and, and_false, false_and, true_or, or_true, i1n0, i0e0, forall_eq, nI_1]
    exact g T h (fun c' f' h1 h2 => hd c' f' h1 (by omega))
  | succ m ih =>
    intro i fuel T hm hfu h hd
    obtain ⟨fu, rfl⟩ : ∃ g, fuel = g + 1 := ⟨fuel - 1, by omega⟩
    have en' : T.1 6 0 55 = nI nfi := by rw [h.2.1 6 (by decide), h6, ← hF.1, en]
    have hv1 : vp_in (nI c) 7 := vp_in_nI hc7 (by decide)
    have hv2 : vp_in (nI i) 3 := vp_in_nI (by omega) (by decide)
    have hv3 : vp_in (nI (3 * c + i)) 21 := vp_in_nI (by omega) (by decide)
    have e5 : ∀ n, n ≠ 61 → n ≠ 62 → T.1 5 n = s.1 5 n := fun n a b => by rw [h.2.2 n a b, h5]
    obtain ⟨c1, c2, c3, c4, -⟩ := id hC
    obtain ⟨f1, f2, f3, f4, -⟩ := id hF
    have eh : ((ab (s.1 0 2 c - s.1 0 26 i) + ab (s.1 0 3 c - s.1 0 27 i)) + 7) / 8 = nI (hrn s i c) := (hr_e hC hF i c).1
    simp only [w_X12_layHours_12, ab_m, en', nle (show nfi < 2 ^ 31 by omega) (show i < 2 ^ 31 by omega), show ¬ nfi ≤ i by omega, true_implies, false_implies, implies_true, not_true_eq_false, not_false_eq_true, not_true, not_false_iff, and_true, true_and, and_false, false_and, true_or, or_true, i1n0, i0e0, hv1, hv2, nI_clamp (show c < 2 ^ 31 by omega), nI_clamp (show i < 2 ^ 31 by omega), e5 6 (by decide) (by decide), e5 7 (by decide) (by decide), e5 56 (by decide) (by decide), e5 57 (by decide) (by decide), ← c3, ← c4, ← f3, ← f4, forall_eq, nI_1, show (3 : Int32) = nI 3 from rfl, pk_mul, nI_add, hv3, nI_clamp (show 3 * c + i < 2 ^ 31 by omega), eh]
    refine ih (i + 1) fu _ (by omega) (by omega) (h.set (Or.inr rfl)) (fun c' f' h1 h2 => ?_)
    rw [rdI, if_pos ⟨rfl, rfl⟩, rdU]
    by_cases e : 3 * c' + f' = 3 * c + i
    · have : c' = c ∧ f' = i := by omega
      rw [if_pos e, this.1, this.2]
    · rw [if_neg e]
      exact hd c' f' h1 (by omega)
theorem lyh_eq {N cnt nfi : Nat} {s V : Sx} {post : Sx → Prop} (hN : 20000 ≤ N) (hC : IC s) (hF : IF s) (hc7 : cnt ≤ 7) (hn3 : nfi ≤ 3) (ec : s.1 0 1 4 = nI cnt) (en : s.1 0 25 4 = nI nfi) (h5 : V.1 5 = s.1 5) (h6 : V.1 6 0 = s.1 6 0) (g : ∀ T, LM V T → (∀ c' f', f' < nfi → c' < cnt → T.1 5 62 (3 * c' + f') = nI (hrn s f' c')) → post T) : w_X12_layHours N V post := by
  have l : ∀ m c fuel (T : Sx), c + m = cnt → m < fuel → LM V T → (∀ c' f', f' < nfi → c' < c → T.1 5 62 (3 * c' + f') = nI (hrn s f' c')) → w_X12_layHours_2 N post fuel T (nI c) := by
    intro m
    induction m with
    | zero =>
      intro c fuel T hm hfu h hd
      obtain ⟨fu, rfl⟩ : ∃ g, fuel = g + 1 := ⟨fuel - 1, by omega⟩
      have hi : c = cnt := by omega
      subst hi
      have ec' : T.1 6 0 5 = nI c := by rw [h.2.1 6 (by decide), h6, ← hC.1, ec]
      simp only [w_X12_layHours_2, ec', nle (show c < 2 ^ 31 by omega) (show c < 2 ^ 31 by omega), Nat.le_refl, true_implies, false_implies, implies_true, not_true_eq_false, not_false_eq_true, not_true, not_false_iff, and_true, true_and, and_false, false_and, true_or, or_true, i1n0, i0e0]
      exact g T h hd
    | succ m ih =>
      intro c fuel T hm hfu h hd
      obtain ⟨fu, rfl⟩ : ∃ g, fuel = g + 1 := ⟨fuel - 1, by omega⟩
      have ec' : T.1 6 0 5 = nI cnt := by rw [h.2.1 6 (by decide), h6, ← hC.1, ec]
      simp only [w_X12_layHours_2, ec', nle (show cnt < 2 ^ 31 by omega) (show c < 2 ^ 31 by omega), show ¬ cnt ≤ c by omega, true_implies, false_implies, implies_true, not_true_eq_false, not_false_eq_true, not_true, not_false_iff, and_true, true_and, and_false, false_and, true_or, or_true, i1n0, i0e0]
      exact ly_in (cnt := cnt) hC hF (by omega) hn3 en h5 h6 (fun T' g1 g2 => ih (c + 1) fu T' (by omega) (by omega) g1 (fun c' f' h1 h2 => g2 c' f' h1 h2)) nfi 0 N T (by omega) (by omega) h (fun c' f' h1 h2 => hd c' f' h1 (by omega))
  exact l cnt 0 N V (by omega) (by omega) (LM.refl V) (fun c' f' h1 h2 => by omega)
/-- the call x is laid -/
theorem lc_lp {N nfi n : Nat} {V : Sx} {post : Sx → Prop} (hn3 : nfi ≤ 3) (hn7 : n ≤ 7) (en : V.1 6 0 55 = nI nfi) : ∀ k x fuel (T : Sx), k ≤ n → x < 2 ^ 30 → k < fuel → LM V T → (∀ T', LM V T' → T'.1 5 62 = T.1 5 62 → (∀ c, c < k → T'.1 5 61 c = nI (dg (nfi + 1) k x c)) → (∀ c, k ≤ c → T'.1 5 61 c = T.1 5 61 c) → post T') → w_X12_layCall_9 N post fuel T (nI x) (nI k + (-1)) := by
  have e1 : nI nfi + 1 = nI (nfi + 1) := nI_1 nfi
  have hnz : ¬ nI (nfi + 1) = 0 := nI_ne0 (by omega) (by omega)
  intro k
  induction k with
  | zero =>
    intro x fuel T hk hx hfu h g
    obtain ⟨fu, rfl⟩ : ∃ g, fuel = g + 1 := ⟨fuel - 1, by omega⟩
    have h0 : nI 0 + (-1) < 0 := by decide
    simp only [w_X12_layCall_9, h0, true_implies, false_implies, implies_true, not_true_eq_false, not_false_eq_true, not_true, not_false_iff, and_true, true_and, and_false, false_and, true_or, or_true, i1n0, i0e0]
    exact g T h rfl (fun c hc => by omega) (fun c _ => rfl)
  | succ k ih =>
    intro x fuel T hk hx hfu h g
    obtain ⟨fu, rfl⟩ : ∃ g, fuel = g + 1 := ⟨fuel - 1, by omega⟩
    have en' : T.1 6 0 55 = nI nfi := by rw [h.2.1 6 (by decide), en]
    have hv : vp_in (nI k) 7 := vp_in_nI (by omega) (by decide)
    have en2 : ∀ v, (setI T 5 61 k v).1 6 0 55 = nI nfi := fun v => en'
    have hd : x / (nfi + 1) ≤ x := Nat.div_le_self _ _
    rw [pk_m1]
    simp only [w_X12_layCall_9, nI_pos (show k < 2 ^ 31 by omega), en', en2, e1, hnz, hv, true_implies, false_implies, implies_true, not_true_eq_false, not_false_eq_true, not_true, not_false_iff, and_true, true_and, and_false, false_and, true_or, or_true, i1n0, i0e0, forall_eq, nI_clamp (show k < 2 ^ 31 by omega), pk_rem (show x < 2 ^ 31 by omega) (show 0 < nfi + 1 by omega) (show nfi + 1 < 2 ^ 31 by omega), pk_div (show x < 2 ^ 31 by omega) (show 0 < nfi + 1 by omega) (show nfi + 1 < 2 ^ 31 by omega)]
    refine ih _ fu _ (by omega) (by omega) (by omega) (h.set (Or.inl rfl)) (fun T' g1 g2 g3 g4 => ?_)
    refine g T' g1 (by rw [g2, rdI, if_neg (by omega)]) (fun c hc => ?_) (fun c hc => ?_)
    · by_cases e : c = k
      · rw [g4 c (by omega), rdI, if_pos ⟨rfl, rfl⟩, rdU, if_pos e]
        show _ = nI (if c = k then x % (nfi + 1) else _)
        rw [if_pos e, ← pk_div (show x < 2 ^ 31 by omega) (show 0 < nfi + 1 by omega) (show nfi + 1 < 2 ^ 31 by omega), pk_rem (show x < 2 ^ 31 by omega) (show 0 < nfi + 1 by omega) (show nfi + 1 < 2 ^ 31 by omega)]
      · rw [g3 c (by omega)]
        show _ = nI (if c = k then x % (nfi + 1) else _)
        rw [if_neg e]
    · rw [g4 c (by omega), rdI, if_pos ⟨rfl, rfl⟩, rdU, if_neg (by omega)]
/-- the reference looks for the hour -/
theorem hi_eq {N cnt nfi x f : Nat} {s T : Sx} {post : Int32 → Sx → Prop} (hN : 20000 ≤ N) (hC : IC s) (hF : IF s) (hc7 : cnt ≤ 7) (hn3 : nfi ≤ 3) (hf : f < nfi) (ec : s.1 0 1 4 = nI cnt) (en : s.1 0 25 4 = nI nfi) (h6 : T.1 6 0 = s.1 6 0) (h58 : T.1 5 58 = s.1 5 58) (h60 : T.1 5 60 = s.1 5 60) (h61 : ∀ c, c < cnt → T.1 5 61 c = nI (dg (nfi + 1) cnt x c)) (h62 : ∀ c, c < cnt → T.1 5 62 (3 * c + f) = nI (hrn s f c)) (hdl : ∀ c, dg (nfi + 1) cnt x c < 2 ^ 20) (g : post (nI (hx s cnt nfi x f)) T) : w_X12_heldIn N (nI f) T post := by
  have ec' : T.1 6 0 5 = nI cnt := by rw [h6, ← hC.1, ec]
  have hv3 : vp_in (nI f) 3 := vp_in_nI (by omega) (by decide)
  have hnw : wi (s.1 0 28 f) 1 60 := hF.2.2.2.2.2.2.2.2.2.2 f (by rw [en, nI_clamp (by omega)]; omega)
  obtain ⟨nd, hnd, end_⟩ := wi_n (n := 60) (by decide) (wi_m hnw (by decide) (by decide) : wi (s.1 0 28 f) 0 60)
  have e58 : T.1 5 58 f = nI nd := by rw [h58, ← hF.2.2.2.2.1, end_]
  have e60 : ∀ c, T.1 5 60 c = nI (crn s c) := fun c => by rw [h60, ← hC.2.2.2.2.2.1]; exact (cr_e hC c).1
  have hcl : (s.1 0 28 f).toNatClampNeg = nd := by rw [end_, nI_clamp (by omega)]
  unfold hx at g
  rw [hcl] at g
  generalize hG : (fun c => dg (nfi + 1) cnt x c = f + 1) = G at g
  have hGc : ∀ c, (dg (nfi + 1) cnt x c = f + 1) = G c := fun c => by rw [← hG]
  have h61G : ∀ c, c < cnt → (T.1 5 61 c = nI (f + 1)) = G c := fun c hc => by
    have := hdl c
    rw [h61 c hc, neq (by omega) (by omega), hGc]
  have hwl : ∀ h, wh (hrn s f) (crn s) G cnt h ≤ cnt * 9 := fun h => sN_le (fun c => by
    by_cases e : G c ∧ hrn s f c ≤ h
    · rw [if_pos e]; exact (cr_e hC c).2
    · rw [if_neg e]; omega) cnt
  -- one hour
  have l67 : ∀ tot h K, h < 24 → (nd ≤ wh (hrn s f) (crn s) G cnt h → post (nI h) T) → (¬ nd ≤ wh (hrn s f) (crn s) G cnt h → K T (nI f) tot (nI (h + 1))) → w_X12_heldIn_67 N post K N T (nI f) tot (nI h) 0 0 := by
    intro tot h K hh p1 p0
    have l : ∀ m i fuel, i + m = cnt → m < fuel → w_X12_heldIn_67 N post K fuel T (nI f) tot (nI h) (nI (wh (hrn s f) (crn s) G i h)) (nI i) := by
      intro m
      induction m with
      | zero =>
        intro i fuel hm hfu
        obtain ⟨fu, rfl⟩ : ∃ g, fuel = g + 1 := ⟨fuel - 1, by omega⟩
        have hi : i = cnt := by omega
        subst hi
        have := hwl h
        simp only [w_X12_heldIn_67, ec', nle (show i < 2 ^ 31 by omega) (show i < 2 ^ 31 by omega), Nat.le_refl, true_implies, false_implies, implies_true, not_true_eq_false, not_false_eq_true, not_true, not_false_iff, and_true, true_and, and_false, false_and, true_or, or_true, i1n0, i0e0, hv3, nI_clamp (show f < 2 ^ 31 by omega), e58, nlt (show wh (hrn s f) (crn s) G i h < 2 ^ 31 by omega) (show nd < 2 ^ 31 by omega), forall_eq, nI_1]
        exact ⟨fun q => p0 (by omega), fun q => p1 (by omega)⟩
      | succ m ih =>
        intro i fuel hm hfu
        obtain ⟨fu, rfl⟩ : ∃ g, fuel = g + 1 := ⟨fuel - 1, by omega⟩
        have hr := ih (i + 1) fu (by omega) (by omega)
        have hv : vp_in (nI i) 7 := vp_in_nI (by omega) (by decide)
        have hv21 : vp_in (nI (3 * i + f)) 21 := vp_in_nI (by omega) (by decide)
        have hh10 := (hr_e hC hF f i).2
        simp only [w_X12_heldIn_67, w_X12_heldIn_116, ec', nle (show cnt < 2 ^ 31 by omega) (show i < 2 ^ 31 by omega), show ¬ cnt ≤ i by omega, true_implies, false_implies, implies_true, not_true_eq_false, not_false_eq_true, not_true, not_false_iff, and_true, true_and, and_false, false_and, true_or, or_true, i1n0, i0e0, hv, hv21, nI_clamp (show i < 2 ^ 31 by omega), nI_1, h61G i (by omega), show (3 : Int32) = nI 3 from rfl, pk_mul, nI_add, nI_clamp (show 3 * i + f < 2 ^ 31 by omega), h62 i (by omega), nlt (show h < 2 ^ 31 by omega) (show hrn s f i < 2 ^ 31 by omega), forall_eq, Int32.add_zero, e60]
        have hs : wh (hrn s f) (crn s) G (i + 1) h = wh (hrn s f) (crn s) G i h + @ite _ (G i ∧ hrn s f i ≤ h) (pd _) (crn s i) 0 := rfl
        rw [hs] at hr
        by_cases c1 : G i
        · by_cases c2 : h < hrn s f i
          · rw [if_neg (fun q => by omega), Nat.add_zero] at hr
            simp only [c1, c2, true_implies, false_implies, implies_true, not_true_eq_false, not_false_eq_true, not_true, not_false_iff, and_true, true_and, and_false, false_and, true_or, or_true, i1n0, i0e0]
            exact hr
          · rw [if_pos ⟨c1, by omega⟩] at hr
            simp only [c1, c2, true_implies, false_implies, implies_true, not_true_eq_false, not_false_eq_true, not_true, not_false_iff, and_true, true_and, and_false, false_and, true_or, or_true, i1n0, i0e0]
            exact hr
        · rw [if_neg (fun q => c1 q.1), Nat.add_zero] at hr
          simp only [c1, true_implies, false_implies, implies_true, not_true_eq_false, not_false_eq_true, not_true, not_false_iff, and_true, true_and, and_false, false_and, true_or, or_true, i1n0, i0e0]
          exact hr
    exact l cnt 0 N (by omega) (by omega)
  have htot : ∀ i, wh (hrn s f) (crn s) G i 24 ≤ i * 9 := fun i => sN_le (fun c => by
    by_cases e : G c ∧ hrn s f c ≤ 24
    · rw [if_pos e]; exact (cr_e hC c).2
    · rw [if_neg e]; omega) i
  have hmono : ∀ h, wh (hrn s f) (crn s) G cnt h ≤ wh (hrn s f) (crn s) G cnt 24 := fun h => sN_mono (fun c hc => by
    by_cases e : G c ∧ hrn s f c ≤ h
    · rw [if_pos e, if_pos ⟨e.1, by have := (hr_e hC hF f c).2; omega⟩]; exact Nat.le_refl _
    · rw [if_neg e]; omega)
  -- the hours
  have l45 : ∀ m h fuel, h + m = 24 → m < fuel → (∀ h', h' < h → ¬ nd ≤ wh (hrn s f) (crn s) G cnt h') → w_X12_heldIn_45 N post fuel T (nI f) (nI (wh (hrn s f) (crn s) G cnt 24)) (nI h) := by
    have h24 : (∀ h', h' < 24 → ¬ nd ≤ wh (hrn s f) (crn s) G cnt h') → post 24 T := fun hn => by
      have : hld (hrn s f) (crn s) G cnt nd = 24 := by
        unfold hld
        rcases hfr : frs (fun h => nd ≤ wh (hrn s f) (crn s) G cnt h) 24 0 with _ | y
        · rfl
        · obtain ⟨-, y1, y2⟩ := frs_some hfr
          exact absurd y2 (hn y (by omega))
      rw [this] at g
      exact g
    intro m
    induction m with
    | zero =>
      intro h fuel hm hfu hn
      obtain ⟨fu, rfl⟩ : ∃ g, fuel = g + 1 := ⟨fuel - 1, by omega⟩
      have hi : h = 24 := by omega
      subst hi
      simp only [w_X12_heldIn_45, show (24 : Int32) ≤ nI 24 from by decide, true_implies, false_implies, implies_true, not_true_eq_false, not_false_eq_true, not_true, not_false_iff, and_true, true_and, and_false, false_and, true_or, or_true, i1n0, i0e0]
      exact h24 hn
    | succ m ih =>
      intro h fuel hm hfu hn
      obtain ⟨fu, rfl⟩ : ∃ g, fuel = g + 1 := ⟨fuel - 1, by omega⟩
      have ht := htot cnt
      have hle : ((24 : Int32) ≤ nI h) = (24 ≤ h) := nle (a := 24) (by decide) (by omega)
      simp only [w_X12_heldIn_45, hle, show ¬ 24 ≤ h by omega, true_implies, false_implies, implies_true, not_true_eq_false, not_false_eq_true, not_true, not_false_iff, and_true, true_and, and_false, false_and, true_or, or_true, i1n0, i0e0, hv3, nI_clamp (show f < 2 ^ 31 by omega), e58, nlt (show wh (hrn s f) (crn s) G cnt 24 < 2 ^ 31 by omega) (show nd < 2 ^ 31 by omega)]
      refine ⟨fun q => h24 (fun h' _ => by have := hmono h'; omega), fun q => ?_⟩
      refine l67 _ h _ (by omega) (fun p => ?_) (fun p => ?_)
      · have : hld (hrn s f) (crn s) G cnt nd = h := by
          obtain ⟨y, hy⟩ := frs_ex (c := fun h => nd ≤ wh (hrn s f) (crn s) G cnt h) (m := 24) (i := 0) (p := h) (by omega) (by omega) p
          obtain ⟨-, y1, y2⟩ := frs_some hy
          have y3 := frs_first hy
          unfold hld
          rw [hy]
          show y = h
          rcases Nat.lt_trichotomy y h with e | e | e
          · exact absurd y2 (hn y e)
          · exact e
          · exact absurd p (y3 h (by omega) e)
        rw [this] at g
        exact g
      · exact ih (h + 1) fu (by omega) (by omega) (fun h' hlt => by
          by_cases e : h' = h
          · rw [e]; exact p
          · exact hn h' (by omega))
  -- those that go
  have l4 : ∀ m i fuel, i + m = cnt → m < fuel → w_X12_heldIn_4 N post fuel T (nI f) (nI (wh (hrn s f) (crn s) G i 24)) (nI i) := by
    intro m
    induction m with
    | zero =>
      intro i fuel hm hfu
      obtain ⟨fu, rfl⟩ : ∃ g, fuel = g + 1 := ⟨fuel - 1, by omega⟩
      have hi : i = cnt := by omega
      subst hi
      simp only [w_X12_heldIn_4, ec', nle (show i < 2 ^ 31 by omega) (show i < 2 ^ 31 by omega), Nat.le_refl, true_implies, false_implies, implies_true, not_true_eq_false, not_false_eq_true, not_true, not_false_iff, and_true, true_and, and_false, false_and, true_or, or_true, i1n0, i0e0]
      exact l45 24 0 N (by omega) (by omega) (fun h' hlt => by omega)
    | succ m ih =>
      intro i fuel hm hfu
      obtain ⟨fu, rfl⟩ : ∃ g, fuel = g + 1 := ⟨fuel - 1, by omega⟩
      have hr := ih (i + 1) fu (by omega) (by omega)
      have hv : vp_in (nI i) 7 := vp_in_nI (by omega) (by decide)
      have hh10 := (hr_e hC hF f i).2
      simp only [w_X12_heldIn_4, ec', nle (show cnt < 2 ^ 31 by omega) (show i < 2 ^ 31 by omega), show ¬ cnt ≤ i by omega, true_implies, false_implies, implies_true, not_true_eq_false, not_false_eq_true, not_true, not_false_iff, and_true, true_and, and_false, false_and, true_or, or_true, i1n0, i0e0, hv, nI_clamp (show i < 2 ^ 31 by omega), nI_1, h61G i (by omega), nI_add, forall_eq, Int32.add_zero, e60]
      have hs : wh (hrn s f) (crn s) G (i + 1) 24 = wh (hrn s f) (crn s) G i 24 + @ite _ (G i ∧ hrn s f i ≤ 24) (pd _) (crn s i) 0 := rfl
      rw [hs] at hr
      by_cases c1 : G i
      · rw [if_pos ⟨c1, by omega⟩] at hr
        simp only [c1, true_implies, false_implies, implies_true, not_true_eq_false, not_false_eq_true, not_true, not_false_iff, and_true, true_and, and_false, false_and, true_or, or_true, i1n0, i0e0]
        exact hr
      · rw [if_neg (fun q => c1 q.1), Nat.add_zero] at hr
        simp only [c1, true_implies, false_implies, implies_true, not_true_eq_false, not_false_eq_true, not_true, not_false_iff, and_true, true_and, and_false, false_and, true_or, or_true, i1n0, i0e0]
        exact hr
  exact l4 cnt 0 N (by omega) (by omega)
