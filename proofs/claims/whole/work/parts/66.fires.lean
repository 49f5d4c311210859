/-! fires: the class' hours, queue and loss -/
def hri (s : Sx) (f c : Nat) : Int32 := ((ab (s.1 0 2 c - s.1 0 26 f) + ab (s.1 0 3 c - s.1 0 27 f)) + 7) / 8
def hrn (s : Sx) (f c : Nat) : Nat := (hri s f c).toNatClampNeg
theorem hr_e {s : Sx} (hC : IC s) (hF : IF s) (f c : Nat) : hri s f c = nI (hrn s f c) ∧ hrn s f c ≤ 10 := by
  obtain ⟨c1, c2, c3, c4, c5, c6, r1, r2, -⟩ := hC
  obtain ⟨e1, e2, e3, e4, e5, e6, l1, l2, -⟩ := hF
  have a1 := ab_i (r1 c) (l1 f)
  have a2 := ab_i (r2 c) (l2 f)
  obtain ⟨x, hx, ex⟩ := nI_of (x := ab (s.1 0 2 c - s.1 0 26 f)) (by rw [lt_, show (0 : Int32).toInt = 0 from by decide]; omega)
  obtain ⟨y, hy, ey⟩ := nI_of (x := ab (s.1 0 3 c - s.1 0 27 f)) (by rw [lt_, show (0 : Int32).toInt = 0 from by decide]; omega)
  rw [ex, nI_toInt hx] at a1
  rw [ey, nI_toInt hy] at a2
  have e : hri s f c = nI ((x + y + 7) / 8) := by
    unfold hri
    rw [ex, ey, nI_add, show (7 : Int32) = nI 7 from rfl, nI_add, show (8 : Int32) = nI 8 from rfl, pk_div (by omega) (by decide) (by decide)]
  unfold hrn
  rw [e, nI_clamp (by omega)]
  exact ⟨rfl, by omega⟩
def crn (s : Sx) (c : Nat) : Nat := (s.1 0 5 c).toNatClampNeg
theorem cr_e {s : Sx} (hC : IC s) (c : Nat) : s.1 0 5 c = nI (crn s c) ∧ crn s c ≤ 9 := by
  obtain ⟨c1, c2, c3, c4, c5, c6, r1, r2, r3, r4, -⟩ := hC
  obtain ⟨x, hx, ex⟩ := wi_n (n := 9) (by decide) (r4 c)
  unfold crn
  rw [ex, nI_clamp (by omega)]
  exact ⟨rfl, hx⟩
def LU (s S : Sx) : Prop := S.2 = s.2 ∧ (∀ k, k ≠ 0 → S.1 k = s.1 k) ∧ ∀ n, n ≠ 30 → n ≠ 31 → S.1 0 n = s.1 0 n
theorem LU.set {s S : Sx} {n i : Nat} {v : Int32} (h : LU s S) (hn : n = 30 ∨ n = 31) : LU s (setI S 0 n i v) := by
  obtain ⟨h1, h2, h3⟩ := h
  refine ⟨h1, fun k hk => ?_, fun m m0 m1 => ?_⟩
  · funext u; rw [rdI, if_neg (by omega), h2 k hk]
  · rw [rdI, if_neg (by omega)]; exact h3 m m0 m1
theorem lu_in {N c f : Nat} {s : Sx} {hr : Nat → Nat} {post : Sx → Prop} {K : Sx → Int32 → Int32 → Prop} (hc7 : c < 7) (hh : ∀ c, hr c ≤ 10) : ∀ k fuel (S : Sx) (q : Nat → Nat), k < fuel → k ≤ c → LU s S → (∀ i, i ≤ c → S.1 0 30 i = nI (hr i)) → (∀ i, i ≤ c → i ≠ k → S.1 0 31 i = nI (q i)) → (∀ i, i ≤ c → i ≠ k → q i ≤ c) → (∀ S', LU s S' → S'.1 0 30 = S.1 0 30 → (∀ i, i ≤ c → S'.1 0 31 i = nI (ins hr c k q i)) → K S' (nI f) (nI (c + 1))) → w_X1_lineUp_42 N post K fuel S (nI f) (nI c) (nI k) := by
  have fin : ∀ k (S : Sx) (q : Nat → Nat), k ≤ c → LU s S → (∀ i, i ≤ c → i ≠ k → S.1 0 31 i = nI (q i)) → (∀ S', LU s S' → S'.1 0 30 = S.1 0 30 → (∀ i, i ≤ c → S'.1 0 31 i = nI (up q k c i)) → K S' (nI f) (nI (c + 1))) → w_X1_lineUp_92 N post K S (nI f) (nI c) (nI k) := by
    intro k S q hk h hq g
    have hv : vp_in (nI k) 7 := vp_in_nI (by omega) (by decide)
    simp only [w_X1_lineUp_92, hv, true_implies, false_implies, implies_true, not_true_eq_false, not_false_eq_true, not_true, not_false_iff, and_true, true_and, and_false, false_and, true_or, or_true, i1n0, i0e0, forall_eq, nI_1, nI_clamp (show k < 2 ^ 31 by omega)]
    refine g _ (h.set (Or.inr rfl)) (by rw [rdI, if_neg (by omega)]) (fun i hi => ?_)
    rw [rdI, if_pos ⟨rfl, rfl⟩, rdU]
    by_cases e : i = k
    · rw [if_pos e, e, up_s]
    · rw [if_neg e, up_n e, hq i hi e]
  intro k
  induction k with
  | zero =>
    intro fuel S q hfu hk h h30 h31 hq g
    obtain ⟨fu, rfl⟩ : ∃ g, fuel = g + 1 := ⟨fuel - 1, by omega⟩
    have : nI 0 ≤ 0 := by decide
    simp only [w_X1_lineUp_42, this, true_implies, false_implies, implies_true, not_true_eq_false, not_false_eq_true, not_true, not_false_iff, and_true, true_and, and_false, false_and, true_or, or_true, i1n0, i0e0]
    exact fin 0 S q hk h h31 g
  | succ k ih =>
    intro fuel S q hfu hk h h30 h31 hq g
    obtain ⟨fu, rfl⟩ : ∃ g, fuel = g + 1 := ⟨fuel - 1, by omega⟩
    have hq1 := hq k (by omega) (by omega)
    have e31 := h31 k (by omega) (by omega)
    have hv1 : vp_in (nI k) 7 := vp_in_nI (by omega) (by decide)
    have hv2 : vp_in (nI (q k)) 7 := vp_in_nI (by omega) (by decide)
    have hv3 : vp_in (nI c) 7 := vp_in_nI (by omega) (by decide)
    have hv4 : vp_in (nI (k + 1)) 7 := vp_in_nI (by omega) (by decide)
    have b1 := hh (q k)
    have b2 := hh c
    simp only [w_X1_lineUp_42, nI_nle (show 0 < k + 1 by omega) (show k + 1 < 2 ^ 31 by omega), true_implies, false_implies, implies_true, not_true_eq_false, not_false_eq_true, not_true, not_false_iff, and_true, true_and, and_false, false_and, true_or, or_true, i1n0, i0e0, show (nI (k + 1) - 1 : Int32) = nI k from nI_pred k, nI_clamp (show k < 2 ^ 31 by omega), e31, nI_clamp (show q k < 2 ^ 31 by omega), nI_clamp (show c < 2 ^ 31 by omega), nI_clamp (show k + 1 < 2 ^ 31 by omega), hv1, hv2, hv3, hv4, h30 (q k) (by omega), h30 c (by omega), nle (show hr (q k) < 2 ^ 31 by omega) (show hr c < 2 ^ 31 by omega), forall_eq, pk_m1]
    unfold ins at g
    by_cases e : hr (q k) ≤ hr c
    · rw [if_pos e] at g
      simp only [e, true_implies, false_implies, implies_true, not_true_eq_false, not_false_eq_true, not_true, not_false_iff, and_true, true_and, and_false, false_and, true_or, or_true, i1n0, i0e0]
      exact fin (k + 1) S q hk h h31 g
    · rw [if_neg e] at g
      simp only [e, true_implies, false_implies, implies_true, not_true_eq_false, not_false_eq_true, not_true, not_false_iff, and_true, true_and, and_false, false_and, true_or, or_true, i1n0, i0e0]
      have e30 : ∀ v, (setI S 0 31 (k + 1) v).1 0 30 = S.1 0 30 := fun v => by rw [rdI, if_neg (by omega)]
      refine ih fu _ (up q (k + 1) (q k)) (by omega) (by omega) (h.set (Or.inr rfl)) (fun i hi => by rw [e30]; exact h30 i hi) (fun i hi hne => ?_) (fun i hi hne => ?_) (fun S' g1 g2 g3 => ?_)
      · rw [rdI, if_pos ⟨rfl, rfl⟩, rdU]
        by_cases e2 : i = k + 1
        · rw [if_pos e2, e2, up_s]
        · rw [if_neg e2, up_n e2]; exact h31 i hi e2
      · by_cases e2 : i = k + 1
        · rw [e2, up_s]; exact hq1
        · rw [up_n e2]; exact hq i hi e2
      · exact g S' g1 (by rw [g2, e30]) g3
theorem lu_loop {N cnt f : Nat} {s : Sx} {post : Sx → Prop} (hN : 20000 ≤ N) (hC : IC s) (hF : IF s) (hc7 : cnt ≤ 7) (hf : f < 3) (ec : s.1 0 1 4 = nI cnt) (g : ∀ S', LU s S' → (∀ i, i < cnt → S'.1 0 30 i = nI (hrn s f i)) → (∀ i, i < cnt → S'.1 0 31 i = nI (que (hrn s f) (fun _ => 0) cnt i)) → post S') : ∀ m c fuel (S : Sx), c + m = cnt → m < fuel → LU s S → (∀ i, i < c → S.1 0 30 i = nI (hrn s f i)) → (∀ i, i < c → S.1 0 31 i = nI (que (hrn s f) (fun _ => 0) c i)) → w_X1_lineUp_2 N post fuel S (nI f) (nI c) := by
  intro m
  induction m with
  | zero =>
    intro c fuel S hm hfu h h30 h31
    obtain ⟨fu, rfl⟩ : ∃ g, fuel = g + 1 := ⟨fuel - 1, by omega⟩
    have hc : c = cnt := by omega
    subst hc
    have ec' : S.1 0 1 4 = nI c := by rw [h.2.2 1 (by decide) (by decide), ec]
    simp only [w_X1_lineUp_2, ec', nle (show c < 2 ^ 31 by omega) (show c < 2 ^ 31 by omega), Nat.le_refl, true_implies, false_implies, implies_true, not_true_eq_false, not_false_eq_true, not_true, not_false_iff, and_true, true_and, and_false, false_and, true_or, or_true, i1n0, i0e0]
    exact g S h h30 h31
  | succ m ih =>
    intro c fuel S hm hfu h h30 h31
    obtain ⟨fu, rfl⟩ : ∃ g, fuel = g + 1 := ⟨fuel - 1, by omega⟩
    have ec' : S.1 0 1 4 = nI cnt := by rw [h.2.2 1 (by decide) (by decide), ec]
    have hv1 : vp_in (nI f) 3 := vp_in_nI hf (by decide)
    have hv2 : vp_in (nI c) 7 := vp_in_nI (by omega) (by decide)
    have eh : ((ab (s.1 0 2 c - s.1 0 26 f) + ab (s.1 0 3 c - s.1 0 27 f)) + 7) / 8 = nI (hrn s f c) := (hr_e hC hF f c).1
    simp only [w_X1_lineUp_2, w_X0_far, ab_c, ec', nle (show cnt < 2 ^ 31 by omega) (show c < 2 ^ 31 by omega), show ¬ cnt ≤ c by omega, true_implies, false_implies, implies_true, not_true_eq_false, not_false_eq_true, not_true, not_false_iff, and_true, true_and, and_false, false_and, true_or, or_true, i1n0, i0e0, hv1, hv2, nI_clamp (show c < 2 ^ 31 by omega), nI_clamp (show f < 2 ^ 31 by omega), h.2.2 2 (by decide) (by decide), h.2.2 3 (by decide) (by decide), h.2.2 26 (by decide) (by decide), h.2.2 27 (by decide) (by decide), forall_eq, eh]
    obtain ⟨q1, q2, q3⟩ := que_e (hrn s f) (fun _ => 0) c
    refine lu_in (s := s) (hr := hrn s f) (by omega) (fun c => (hr_e hC hF f c).2) c N _ (que (hrn s f) (fun _ => 0) c) (by omega) (Nat.le_refl _) (h.set (Or.inl rfl)) (fun i hi => ?_) (fun i hi hne => ?_) (fun i hi hne => ?_) (fun S' g1 g2 g3 => ?_)
    · rw [rdI, if_pos ⟨rfl, rfl⟩, rdU]
      by_cases e : i = c
      · rw [if_pos e, e]
      · rw [if_neg e]; exact h30 i (by omega)
    · rw [rdI, if_neg (by omega)]
      exact h31 i (by omega)
    · have := q2 i (by omega); omega
    · refine ih (c + 1) fu S' (by omega) (by omega) g1 (fun i hi => ?_) (fun i hi => g3 i (by omega))
      rw [g2, rdI, if_pos ⟨rfl, rfl⟩, rdU]
      by_cases e : i = c
      · rw [if_pos e, e]
      · rw [if_neg e]; exact h30 i (by omega)
theorem lu_eq {N cnt f : Nat} {s : Sx} {post : Sx → Prop} (hN : 20000 ≤ N) (hC : IC s) (hF : IF s) (hc7 : cnt ≤ 7) (hf : f < 3) (ec : s.1 0 1 4 = nI cnt) (g : ∀ S', LU s S' → (∀ i, i < cnt → S'.1 0 30 i = nI (hrn s f i)) → (∀ i, i < cnt → S'.1 0 31 i = nI (que (hrn s f) (fun _ => 0) cnt i)) → post S') : w_X1_lineUp N (nI f) s post :=
  lu_loop hN hC hF hc7 hf ec g cnt 0 N s (by omega) (by omega) ⟨rfl, fun _ _ => rfl, fun _ _ _ => rfl⟩ (fun i hi => by omega) (fun i hi => by omega)
/-- the hour in which the set holds the fire -/
noncomputable def hd (s : Sx) (cnt f set : Nat) : Nat := hld (hrn s f) (crn s) (fun c => bt set c = 1) cnt (s.1 0 28 f).toNatClampNeg
theorem cm_le (cr : Nat → Nat) (G : Nat → Prop) (q : Nat → Nat) (h : ∀ c, cr c ≤ 9) (n : Nat) : cm cr G q n ≤ n * 9 := sN_le (fun i => by
  show @ite _ _ (pd _) _ _ ≤ 9
  by_cases g : G (q i)
  · rw [if_pos g]; exact h _
  · rw [if_neg g]; omega) n
theorem la_eq {N cnt f set : Nat} {s S : Sx} {post : Int32 → Sx → Prop} (hN : 20000 ≤ N) (hC : IC s) (hF : IF s) (hc7 : cnt ≤ 7) (hf : f < 3) (hs : set < 128) (ec : s.1 0 1 4 = nI cnt) (hn : wi (s.1 0 28 f) 1 60) (h : ∀ n, n < 30 → S.1 0 n = s.1 0 n) (h30 : ∀ i, i < cnt → S.1 0 30 i = nI (hrn s f i)) (h31 : ∀ i, i < cnt → S.1 0 31 i = nI (que (hrn s f) (fun _ => 0) cnt i)) (g : post (s.1 0 29 f * nI (hd s cnt f set)) S) : w_X1_lostAt N (nI f) (nI set) S post := by
  obtain ⟨q1, q2, q3⟩ := que_e (hrn s f) (fun _ => 0) cnt
  have ec' : S.1 0 1 4 = nI cnt := by rw [h 1 (by decide), ec]
  have hv1 : vp_in (nI f) 3 := vp_in_nI hf (by decide)
  obtain ⟨nd, hnd, en⟩ := wi_n (n := 60) (by decide) (wi_m hn (by decide) (by decide) : wi (s.1 0 28 f) 0 60)
  have end_ : (s.1 0 28 f).toNatClampNeg = nd := by rw [en, nI_clamp (by omega)]
  have hle := fun k => cm_le (crn s) (fun c => bt set c = 1) (que (hrn s f) (fun _ => 0) cnt) (fun c => (cr_e hC c).2) k
  have l : ∀ m k fuel, k + m = cnt → m < fuel → (∀ j, j ≤ k → cm (crn s) (fun c => bt set c = 1) (que (hrn s f) (fun _ => 0) cnt) j < nd) → w_X1_lostAt_6 N post fuel S (nI f) (nI set) (nI (cm (crn s) (fun c => bt set c = 1) (que (hrn s f) (fun _ => 0) cnt) k)) (nI k) := by
    intro m
    induction m with
    | zero =>
      intro k fuel hm hfu hj
      obtain ⟨fu, rfl⟩ : ∃ g, fuel = g + 1 := ⟨fuel - 1, by omega⟩
      have hk : k = cnt := by omega
      subst hk
      simp only [w_X1_lostAt_6, ec', nle (show k < 2 ^ 31 by omega) (show k < 2 ^ 31 by omega), Nat.le_refl, true_implies, false_implies, implies_true, not_true_eq_false, not_false_eq_true, not_true, not_false_iff, and_true, true_and, and_false, false_and, true_or, or_true, i1n0, i0e0, hv1, nI_clamp (show f < 2 ^ 31 by omega), h 29 (by decide)]
      unfold hd at g
      rw [end_, hld_n (q0 := fun _ => 0) (hj k (Nat.le_refl _))] at g
      exact g
    | succ m ih =>
      intro k fuel hm hfu hj
      obtain ⟨fu, rfl⟩ : ∃ g, fuel = g + 1 := ⟨fuel - 1, by omega⟩
      have hq := q2 k (by omega)
      have hv2 : vp_in (nI k) 7 := vp_in_nI (by omega) (by decide)
      have hv3 : vp_in (nI (que (hrn s f) (fun _ => 0) cnt k)) 7 := vp_in_nI (by omega) (by decide)
      have e31 := h31 k (by omega)
      have e30 := h30 _ hq
      have hl1 := hle k
      have hl2 := hle (k + 1)
      have hb := bt_01 set (que (hrn s f) (fun _ => 0) cnt k)
      have hs1 : cm (crn s) (fun c => bt set c = 1) (que (hrn s f) (fun _ => 0) cnt) (k + 1) = cm (crn s) (fun c => bt set c = 1) (que (hrn s f) (fun _ => 0) cnt) k + @ite _ (bt set (que (hrn s f) (fun _ => 0) cnt k) = 1) (pd _) (crn s (que (hrn s f) (fun _ => 0) cnt k)) 0 := rfl
      generalize hxq : que (hrn s f) (fun _ => 0) cnt k = x at hq hv3 e31 e30 hb hs1
      have hx10 := (hr_e hC hF f x).2
      simp only [w_X1_lostAt_6, ec', nle (show cnt < 2 ^ 31 by omega) (show k < 2 ^ 31 by omega), show ¬ cnt ≤ k by omega, true_implies, false_implies, implies_true, not_true_eq_false, not_false_eq_true, not_true, not_false_iff, and_true, true_and, and_false, false_and, true_or, or_true, i1n0, i0e0, hv1, hv2, hv3, nI_clamp (show f < 2 ^ 31 by omega), nI_clamp (show k < 2 ^ 31 by omega), e31, forall_eq, sh_bt set (by omega) x (by omega), nI_clamp (show x < 2 ^ 31 by omega), h 5 (by decide), h 28 (by decide), h 29 (by decide), (cr_e hC x).1, nI_add, en, nI_1, e30]
      rcases hb with hb | hb
      · rw [if_neg (by omega), Nat.add_zero] at hs1
        have hr := ih (k + 1) fu (by omega) (by omega) (fun j hj2 => by
          by_cases e : j = k + 1
          · rw [e, hs1]; exact hj k (Nat.le_refl _)
          · exact hj j (by omega))
        rw [hs1] at hr
        have : nI 0 = 0 := rfl
        simp only [hb, this, true_implies, false_implies, implies_true, not_true_eq_false, not_false_eq_true, not_true, not_false_iff, and_true, true_and, and_false, false_and, true_or, or_true, i1n0, i0e0]
        exact hr
      · rw [if_pos hb] at hs1
        have : ¬ nI 1 = 0 := by decide
        rw [hs1] at hl2
        simp only [hb, this, true_implies, false_implies, implies_true, not_true_eq_false, not_false_eq_true, not_true, not_false_iff, and_true, true_and, and_false, false_and, true_or, or_true, i1n0, i0e0, nlt (show cm (crn s) (fun c => bt set c = 1) (que (hrn s f) (fun _ => 0) cnt) k + crn s x < 2 ^ 31 by omega) (show nd < 2 ^ 31 by omega)]
        by_cases c1 : cm (crn s) (fun c => bt set c = 1) (que (hrn s f) (fun _ => 0) cnt) k + crn s x < nd
        · have hr := ih (k + 1) fu (by omega) (by omega) (fun j hj2 => by
            by_cases e : j = k + 1
            · rw [e, hs1]; exact c1
            · exact hj j (by omega))
          rw [hs1] at hr
          simp only [c1, true_implies, false_implies, implies_true, not_true_eq_false, not_false_eq_true, not_true, not_false_iff, and_true, true_and, and_false, false_and, true_or, or_true, i1n0, i0e0]
          exact hr
        · simp only [c1, true_implies, false_implies, implies_true, not_true_eq_false, not_false_eq_true, not_true, not_false_iff, and_true, true_and, and_false, false_and, true_or, or_true, i1n0, i0e0, show (24 : Int32) = nI 24 from rfl, min_n (show hrn s f x < 2 ^ 31 by omega) (show 24 < 2 ^ 31 by omega), show min (hrn s f x) 24 = hrn s f x by omega]
          unfold hd at g
          rw [end_, hld_y (q0 := fun _ => 0) (k := k) (fun c => by have := (hr_e hC hF f c).2; omega) (by omega) (by rw [hxq]; exact hb) (hj k (Nat.le_refl _)) (by rw [hs1]; omega), hxq] at g
          exact g
  refine l cnt 0 N (by omega) (by omega) (fun j hj => ?_)
  rw [show j = 0 by omega]
  show 0 < nd
  have := (wi_i.mp hn).1
  rw [en, nI_toInt (by omega), show (1 : Int32).toInt = 1 from by decide] at this
  omega
