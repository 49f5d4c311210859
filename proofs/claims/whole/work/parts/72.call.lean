/-! the best call: the class -/
def LV (s S : Sx) : Prop := (∀ k, k ≠ 0 → S.1 k = s.1 k) ∧ (∀ n, n ≠ 30 → n ≠ 31 → S.1 0 n = s.1 0 n) ∧ S.2.2 = s.2.2
theorem LV.refl (s : Sx) : LV s s := ⟨fun _ _ => rfl, fun _ _ _ => rfl, rfl⟩
theorem LV.lu {s S U : Sx} (h : LV s S) (g : LU S U) : LV s U := ⟨fun k hk => (g.2.1 k hk).trans (h.1 k hk), fun n a b => (g.2.2 n a b).trans (h.2.1 n a b), by rw [g.1, h.2.2]⟩
theorem LV.sj {s S : Sx} {n i : Nat} {v : Int64} (h : LV s S) : LV s (setJ S 0 n i v) := ⟨h.1, h.2.1, h.2.2⟩
theorem LV.ic {s S : Sx} (h : LV s S) (hC : IC s) : IC S := by
  apply IC.of (s := s) <;> first | exact hC | exact congrFun (h.2.1 _ (by decide) (by decide)) _ | exact h.2.1 _ (by decide) (by decide) | exact congrFun (h.1 _ (by decide)) _ | (rw [h.1 _ (by decide)])
theorem LV.if_ {s S : Sx} (h : LV s S) (hC : IF s) : IF S := by
  apply IF.of (s := s) <;> first | exact hC | exact congrFun (h.2.1 _ (by decide) (by decide)) _ | exact h.2.1 _ (by decide) (by decide) | exact congrFun (h.1 _ (by decide)) _ | (rw [h.1 _ (by decide)])
theorem LV.hr {s S : Sx} (h : LV s S) (f : Nat) : hrn S f = hrn s f := by
  funext c
  unfold hrn hri
  rw [h.2.1 2 (by decide) (by decide), h.2.1 3 (by decide) (by decide), h.2.1 26 (by decide) (by decide), h.2.1 27 (by decide) (by decide)]
theorem minL {N a b : Nat} {s : Sx} {post : Int64 → Sx → Prop} (ha : a < 2 ^ 63) (hb : b < 2 ^ 63) (g : post (lN (min a b)) s) : w_J9_min_f86c9 N (lN a) (lN b) s post := by
  unfold w_J9_min_f86c9
  rw [lg_cmp_gt, pk_lLT hb ha]
  refine ⟨fun h => ?_, fun h => ?_⟩
  · rw [show min a b = b by omega] at g; exact g
  · rw [show min a b = a by omega] at g; exact g
theorem bs_eq {N cnt f t : Nat} {s S : Sx} {post : Int64 → Sx → Prop} (hN : 20000 ≤ N) (hC : IC s) (hF : IF s) (hc7 : cnt ≤ 7) (hf : f < 3) (ht : t < 2 ^ cnt) (h32 : ∀ u, u < 2 ^ cnt → S.2.1 0 32 u = lN (tg s cnt f (fun c => bt u c = 1))) (h33 : ∀ u, u ≤ t → ∃ v, S.2.1 0 33 u = lN v ∧ BP s cnt f u v) (gp : ∀ v, BP s cnt (f + 1) t v → post (lN v) S) : w_X1_bestSplit N (nI t) S post := by
  have h128 := p2_le hc7
  obtain ⟨b, hb⟩ : ∃ b : Nat → Nat, ∀ u, u ≤ t → S.2.1 0 33 u = lN (b u) ∧ BP s cnt f u (b u) := by
    obtain ⟨b, hb⟩ := Classical.axiomOfChoice (r := fun (u v : Nat) => u ≤ t → S.2.1 0 33 u = lN v ∧ BP s cnt f u v) (fun u => by
      by_cases e : u ≤ t
      · obtain ⟨v, hv⟩ := h33 u e; exact ⟨v, fun _ => hv⟩
      · exact ⟨0, fun q => absurd q e⟩)
    exact ⟨b, hb⟩
  have hbb : ∀ u, u ≤ t → b u ≤ 2 ^ 60 + 2 ^ 36 := fun u hu => by have := (hb u hu).2.2.2; omega
  have htg : ∀ u, tg s cnt f (fun c => bt u c = 1) ≤ 2 ^ 34 := fun u => tg_le hC hF hc7 hf _
  have l : ∀ fuel g v, g < fuel → g &&& t = g → g < 128 → v ≤ 2 ^ 61 → (∀ u, u < 128 → u &&& t = u → (u = 0 ∨ g < u) → v ≤ b (t - u) + tg s cnt f (fun c => bt u c = 1)) → (∃ u, u < 128 ∧ u &&& t = u ∧ v = b (t - u) + tg s cnt f (fun c => bt u c = 1)) → w_X1_bestSplit_17 N post fuel S (nI t) (lN v) (nI g) := by
    intro fuel
    induction fuel with
    | zero => intro g v h; omega
    | succ fu ih =>
      intro g v hfu gs g128 hv hlow hgot
      obtain ⟨sb, -⟩ := sb_sub t (by omega) g g128 gs
      unfold w_X1_bestSplit_17
      refine ⟨fun q => ?_, fun q => ?_⟩
      · have h0 : g ≤ 0 := by rw [show (0 : Int32) = nI 0 from rfl, nle (by omega) (by omega)] at q; exact q
        exact gp v (BP_s hC hF hc7 hf ht b (fun u hu => (hb u hu).2) (fun u u1 u2 => hlow u u1 u2 (by omega)) hgot)
      · have h0 : 0 < g := by rw [show (0 : Int32) = nI 0 from rfl, nle (by omega) (by omega)] at q; omega
        have nx : (nI g - 1) &&& nI t = nI ((g - 1) &&& t) := by rw [show (1 : Int32) = nI 1 from rfl, pk_sub (by omega), sg_and _ (by omega) _ (by omega)]
        have hl : (g - 1) &&& t ≤ g - 1 := Nat.and_le_left
        have bb := hbb (t - g) (by omega)
        have tt := htg g
        rw [pk_sub sb, nI_clamp (show t - g < 2 ^ 31 by omega), nI_clamp (show g < 2 ^ 31 by omega), (hb (t - g) (by omega)).1, h32 g (by omega), lN_add]
        refine ⟨vp_in_nI (by omega) (by decide), vp_in_nI (by omega) (by decide), minL (by omega) (by omega) ?_⟩
        intro x hx
        rw [hx, nx]
        refine ih _ _ (by omega) (by rw [Nat.and_assoc, Nat.and_self]) (by omega) (by omega) (fun u u1 u2 u3 => ?_) ?_
        · by_cases e : u = g
          · rw [e]; omega
          · by_cases e2 : u = 0 ∨ g < u
            · have := hlow u u1 u2 e2; omega
            · have := sb_nx t (by omega) g g128 gs u (by omega) u2
              omega
        · by_cases e : v ≤ b (t - g) + tg s cnt f (fun c => bt g c = 1)
          · rw [Nat.min_eq_left e]; exact hgot
          · rw [Nat.min_eq_right (by omega)]; exact ⟨g, g128, gs, rfl⟩
  unfold w_X1_bestSplit
  refine ⟨vp_in_nI (by omega) (by decide), vp_in_nI (n := 0) (by decide) (by decide), fun x hx => ?_⟩
  have e0 : (0 : Int32).toNatClampNeg = 0 := by decide
  rw [e0, nI_clamp (show t < 2 ^ 31 by omega), (hb t (Nat.le_refl _)).1, h32 0 (Nat.pow_pos (by decide)), lN_add] at hx
  rw [hx]
  have bb := hbb t (Nat.le_refl _)
  have tt := htg 0
  refine l N t _ (by omega) (Nat.and_self t) (by omega) (by omega) (fun u u1 u2 u3 => ?_) ⟨0, by decide, Nat.zero_and t, rfl⟩
  obtain ⟨sb, -⟩ := sb_sub t (by omega) u u1 u2
  rw [show u = 0 by omega]
  exact Nat.le_refl _
theorem b75 {N cnt f : Nat} {s : Sx} {post : Int64 → Sx → Prop} {K : Sx → Int32 → Int32 → Prop} (hN : 20000 ≤ N) (hC : IC s) (hF : IF s) (hc7 : cnt ≤ 7) (hf : f < 3) (gk : ∀ S', LV s S' → (∀ u, u < 2 ^ cnt → ∃ v, S'.2.1 0 33 u = lN v ∧ BP s cnt (f + 1) u v) → K S' (nI (2 ^ cnt)) (nI (f + 1))) : ∀ i fuel (S : Sx), i ≤ 2 ^ cnt → i < fuel → LV s S → (∀ u, u < 2 ^ cnt → S.2.1 0 32 u = lN (tg s cnt f (fun c => bt u c = 1))) → (∀ u, u < i → ∃ v, S.2.1 0 33 u = lN v ∧ BP s cnt f u v) → (∀ u, i ≤ u → u < 2 ^ cnt → ∃ v, S.2.1 0 33 u = lN v ∧ BP s cnt (f + 1) u v) → w_X1_bestCall_75 N post K fuel S (nI (2 ^ cnt)) (nI f) (nI i + (-1)) := by
  have h128 := p2_le hc7
  intro i
  induction i with
  | zero =>
    intro fuel S hi hfu h h32 hlo hhi
    obtain ⟨fu, rfl⟩ : ∃ g, fuel = g + 1 := ⟨fuel - 1, by omega⟩
    have h0 : nI 0 + (-1) < 0 := by decide
    simp only [w_X1_bestCall_75, h0, true_implies, false_implies, implies_true, not_true_eq_false, not_false_eq_true, not_true, not_false_iff, and_true, true_and, and_false, false_and, true_or, or_true, i1n0, i0e0, forall_eq, nI_1]
    exact gk S h (fun u hu => hhi u (by omega) hu)
  | succ i ih =>
    intro fuel S hi hfu h h32 hlo hhi
    obtain ⟨fu, rfl⟩ : ∃ g, fuel = g + 1 := ⟨fuel - 1, by omega⟩
    have hv : vp_in (nI i) 128 := vp_in_nI (by omega) (by decide)
    rw [pk_m1]
    simp only [w_X1_bestCall_75, nI_pos (show i < 2 ^ 31 by omega), true_implies, false_implies, implies_true, not_true_eq_false, not_false_eq_true, not_true, not_false_iff, and_true, true_and, and_false, false_and, true_or, or_true, i1n0, i0e0]
    refine bs_eq hN hC hF hc7 hf (by omega) h32 (fun u hu => hlo u (by omega)) (fun v hbp => ?_)
    refine ⟨hv, fun S' hS' x hx => ?_⟩
    rw [hS', hx, nI_clamp (show i < 2 ^ 31 by omega)]
    refine ih fu _ (by omega) (by omega) h.sj (fun u hu => ?_) (fun u hu => ?_) (fun u hu1 hu2 => ?_)
    · rw [rdJ, if_neg (by omega)]; exact h32 u hu
    · rw [rdJ, if_pos ⟨rfl, rfl⟩, pk_uLn (by omega)]; exact hlo u (by omega)
    · rw [rdJ, if_pos ⟨rfl, rfl⟩]
      by_cases e : u = i
      · rw [e, pk_uLs]; exact ⟨v, rfl, hbp⟩
      · rw [pk_uLn e]; exact hhi u (by omega) hu2
theorem wo_sh : ∀ c, c < 7 → ∀ f, f < 3 → ∀ r, r < 10 → ((nI r <<< (14 &&& 31)) + ((nI f + 1) <<< ((2 * (6 - nI c)) &&& 31))).toInt64 = lN (r * 2 ^ 14 + (f + 1) * 4 ^ (6 - c)) := by decide +kernel
theorem wof_eq {N cnt f set : Nat} {s S : Sx} {post : Int64 → Sx → Prop} (hN : 20000 ≤ N) (hC : IC s) (hF : IF s) (hc7 : cnt ≤ 7) (hf : f < 3) (hs : set < 128) (ec : s.1 0 1 4 = nI cnt) (hn : wi (s.1 0 28 f) 1 60) (h : ∀ n, n < 30 → S.1 0 n = s.1 0 n) (h30 : ∀ i, i < cnt → S.1 0 30 i = nI (hrn s f i)) (h31 : ∀ i, i < cnt → S.1 0 31 i = nI (que (hrn s f) (fun _ => 0) cnt i)) (g : post (lN (tg s cnt f (fun c => bt set c = 1))) S) : w_X1_worthOf N (nI f) (nI set) S post := by
  have ec' : S.1 0 1 4 = nI cnt := by rw [h 1 (by decide), ec]
  have hm : spn s f * hg s cnt f (fun c => bt set c = 1) ≤ 99 * 24 := Nat.mul_le_mul (sp_e hF f).2 (hg_le s cnt f _)
  have l : ∀ m c fuel, c + m = cnt → m < fuel → w_X1_worthOf_16 N post fuel S (nI f) (nI set) (lN (spn s f * hg s cnt f (fun c => bt set c = 1) * 2 ^ 20 + tc s f (fun c => bt set c = 1) c)) (nI c) := by
    intro m
    induction m with
    | zero =>
      intro c fuel hm hfu
      obtain ⟨fu, rfl⟩ : ∃ g, fuel = g + 1 := ⟨fuel - 1, by omega⟩
      have hc : c = cnt := by omega
      subst hc
      simp only [w_X1_worthOf_16, ec', nle (show c < 2 ^ 31 by omega) (show c < 2 ^ 31 by omega), Nat.le_refl, true_implies, false_implies, implies_true, not_true_eq_false, not_false_eq_true, not_true, not_false_iff, and_true, true_and, and_false, false_and, true_or, or_true, i1n0, i0e0]
      exact g
    | succ m ih =>
      intro c fuel hm hfu
      obtain ⟨fu, rfl⟩ : ∃ g, fuel = g + 1 := ⟨fuel - 1, by omega⟩
      have hr := ih (c + 1) fu (by omega) (by omega)
      have hv : vp_in (nI c) 7 := vp_in_nI (by omega) (by decide)
      have hcr := (cr_e hC c).2
      have hs1 : tc s f (fun c => bt set c = 1) (c + 1) = tc s f (fun c => bt set c = 1) c + @ite _ (bt set c = 1) (pd _) (crn s c * 2 ^ 14 + (f + 1) * 4 ^ (6 - c)) 0 := rfl
      rw [hs1] at hr
      simp only [w_X1_worthOf_16, w_X1_rowBit, ec', nle (show cnt < 2 ^ 31 by omega) (show c < 2 ^ 31 by omega), show ¬ cnt ≤ c by omega, true_implies, false_implies, implies_true, not_true_eq_false, not_false_eq_true, not_true, not_false_iff, and_true, true_and, and_false, false_and, true_or, or_true, i1n0, i0e0, hv, forall_eq, nI_1, sh_bt set (by omega) c (by omega), nI_clamp (show c < 2 ^ 31 by omega), h 5 (by decide), (cr_e hC c).1]
      rcases bt_01 set c with hb | hb
      · rw [if_neg (by omega), Nat.add_zero] at hr
        have : nI 0 = 0 := rfl
        simp only [hb, this, true_implies, false_implies, implies_true, not_true_eq_false, not_false_eq_true, not_true, not_false_iff, and_true, true_and, and_false, false_and, true_or, or_true, i1n0, i0e0]
        exact hr
      · rw [if_pos hb, ← Nat.add_assoc, ← lN_add, ← wo_sh c (by omega) f hf (crn s c) (by omega), nI_1] at hr
        have : ¬ nI 1 = 0 := by decide
        simp only [hb, this, true_implies, false_implies, implies_true, not_true_eq_false, not_false_eq_true, not_true, not_false_iff, and_true, true_and, and_false, false_and, true_or, or_true, i1n0, i0e0]
        exact hr
  unfold w_X1_worthOf
  refine la_eq hN hC hF hc7 hf hs ec hn h h30 h31 ?_
  have eh : hd s cnt f set = hg s cnt f (fun c => bt set c = 1) := rfl
  intro x hx
  rw [(sp_e hF f).1, pk_mul, eh, nI_l (by omega), bw_sl] at hx
  rw [hx]
  have hl := l cnt 0 N (by omega) (by omega)
  have e0 : tc s f (fun c => bt set c = 1) 0 = 0 := rfl
  rw [e0, Nat.add_zero] at hl
  exact hl
theorem b43 {N cnt f : Nat} {s : Sx} {post : Int64 → Sx → Prop} {K : Sx → Int32 → Int32 → Prop} (hN : 20000 ≤ N) (hC : IC s) (hF : IF s) (hc7 : cnt ≤ 7) (hf : f < 3) (ec : s.1 0 1 4 = nI cnt) (hn : wi (s.1 0 28 f) 1 60) (gk : ∀ S', LV s S' → (∀ u, u < 2 ^ cnt → ∃ v, S'.2.1 0 33 u = lN v ∧ BP s cnt (f + 1) u v) → K S' (nI (2 ^ cnt)) (nI (f + 1))) : ∀ m i fuel (S : Sx), i + m = 2 ^ cnt → m < fuel → LV s S → (∀ i, i < cnt → S.1 0 30 i = nI (hrn s f i)) → (∀ i, i < cnt → S.1 0 31 i = nI (que (hrn s f) (fun _ => 0) cnt i)) → (∀ u, u < i → S.2.1 0 32 u = lN (tg s cnt f (fun c => bt u c = 1))) → (∀ u, u < 2 ^ cnt → ∃ v, S.2.1 0 33 u = lN v ∧ BP s cnt f u v) → w_X1_bestCall_43 N post K fuel S (nI (2 ^ cnt)) (nI f) (nI i) := by
  have h128 := p2_le hc7
  intro m
  induction m with
  | zero =>
    intro i fuel S hm hfu h h30 h31 h32 h33
    obtain ⟨fu, rfl⟩ : ∃ g, fuel = g + 1 := ⟨fuel - 1, by omega⟩
    have hi : i = 2 ^ cnt := by omega
    subst hi
    have em1 : nI (2 ^ cnt) - 1 = nI (2 ^ cnt) + (-1) := by rw [Int32.sub_eq_add_neg]
    simp only [w_X1_bestCall_43, nle (show 2 ^ cnt < 2 ^ 31 by omega) (show 2 ^ cnt < 2 ^ 31 by omega), Nat.le_refl, true_implies, false_implies, implies_true, not_true_eq_false, not_false_eq_true, not_true, not_false_iff, and_true, true_and, and_false, false_and, true_or, or_true, i1n0, i0e0, forall_eq, em1]
    exact b75 hN hC hF hc7 hf gk (2 ^ cnt) N S (Nat.le_refl _) (by omega) h h32 h33 (fun u h1 h2 => by omega)
  | succ m ih =>
    intro i fuel S hm hfu h h30 h31 h32 h33
    obtain ⟨fu, rfl⟩ : ∃ g, fuel = g + 1 := ⟨fuel - 1, by omega⟩
    have hv : vp_in (nI i) 128 := vp_in_nI (by omega) (by decide)
    simp only [w_X1_bestCall_43, nle (show 2 ^ cnt < 2 ^ 31 by omega) (show i < 2 ^ 31 by omega), show ¬ 2 ^ cnt ≤ i by omega, true_implies, false_implies, implies_true, not_true_eq_false, not_false_eq_true, not_true, not_false_iff, and_true, true_and, and_false, false_and, true_or, or_true, i1n0, i0e0]
    refine wof_eq hN hC hF hc7 hf (by omega) ec hn (fun n hn => h.2.1 n (by omega) (by omega)) h30 h31 ?_
    refine ⟨hv, fun S' hS' x hx => ?_⟩
    rw [hS', hx, nI_clamp (show i < 2 ^ 31 by omega), nI_1]
    refine ih (i + 1) fu _ (by omega) (by omega) h.sj h30 h31 (fun u hu => ?_) (fun u hu => ?_)
    · rw [rdJ, if_pos ⟨rfl, rfl⟩]
      by_cases e : u = i
      · rw [e, pk_uLs]
      · rw [pk_uLn e]; exact h32 u (by omega)
    · rw [rdJ, if_neg (by omega)]; exact h33 u hu
theorem b112 {N cnt nfi : Nat} {s S : Sx} {post : Int64 → Sx → Prop} (hN : 20000 ≤ N) (hC : IC s) (hF : IF s) (hc7 : cnt ≤ 7) (hn3 : nfi ≤ 3) (h33 : ∀ u, u < 2 ^ cnt → ∃ v, S.2.1 0 33 u = lN v ∧ BP s cnt nfi u v) (gp : ∀ v, (∀ a : Nat → Nat, (∀ c, c < cnt → a c ≤ nfi) → v ≤ wg s cnt a nfi) → (∃ a : Nat → Nat, (∀ c, c < cnt → a c ≤ nfi) ∧ v = wg s cnt a nfi) → post (lN v) S) : w_X1_bestCall_112 N post N S (nI (2 ^ cnt)) 1152921504606846976 0 := by
  have h128 := p2_le hc7
  obtain ⟨b, hb⟩ : ∃ b : Nat → Nat, ∀ u, u < 2 ^ cnt → S.2.1 0 33 u = lN (b u) ∧ BP s cnt nfi u (b u) := by
    obtain ⟨b, hb⟩ := Classical.axiomOfChoice (r := fun (u v : Nat) => u < 2 ^ cnt → S.2.1 0 33 u = lN v ∧ BP s cnt nfi u v) (fun u => by
      by_cases e : u < 2 ^ cnt
      · obtain ⟨v, hv⟩ := h33 u e; exact ⟨v, fun _ => hv⟩
      · exact ⟨0, fun q => absurd q e⟩)
    exact ⟨b, hb⟩
  have l : ∀ m i fuel v, i + m = 2 ^ cnt → m < fuel → v ≤ 2 ^ 60 → (∀ u, u < i → v ≤ b u) → (v = 2 ^ 60 ∨ ∃ u, u < 2 ^ cnt ∧ v = b u) → w_X1_bestCall_112 N post fuel S (nI (2 ^ cnt)) (lN v) (nI i) := by
    intro m
    induction m with
    | zero =>
      intro i fuel v hm hfu hv hlow hgot
      obtain ⟨fu, rfl⟩ : ∃ g, fuel = g + 1 := ⟨fuel - 1, by omega⟩
      have hi : i = 2 ^ cnt := by omega
      subst hi
      simp only [w_X1_bestCall_112, nle (show 2 ^ cnt < 2 ^ 31 by omega) (show 2 ^ cnt < 2 ^ 31 by omega), Nat.le_refl, true_implies, false_implies, implies_true, not_true_eq_false, not_false_eq_true, not_true, not_false_iff, and_true, true_and, and_false, false_and, true_or, or_true, i1n0, i0e0]
      obtain ⟨e1, e2⟩ := BP_e hC hF hc7 hn3 b (fun u hu => (hb u hu).2) hlow hgot
      exact gp v e1 e2
    | succ m ih =>
      intro i fuel v hm hfu hv hlow hgot
      obtain ⟨fu, rfl⟩ : ∃ g, fuel = g + 1 := ⟨fuel - 1, by omega⟩
      have hv1 : vp_in (nI i) 128 := vp_in_nI (by omega) (by decide)
      have hb2 := (hb i (by omega)).2.2.2
      simp only [w_X1_bestCall_112, nle (show 2 ^ cnt < 2 ^ 31 by omega) (show i < 2 ^ 31 by omega), show ¬ 2 ^ cnt ≤ i by omega, true_implies, false_implies, implies_true, not_true_eq_false, not_false_eq_true, not_true, not_false_iff, and_true, true_and, and_false, false_and, true_or, or_true, i1n0, i0e0, hv1, nI_clamp (show i < 2 ^ 31 by omega), (hb i (by omega)).1, forall_eq, nI_1]
      refine minL (by omega) (by omega) (ih (i + 1) fu _ (by omega) (by omega) (by omega) (fun u hu => ?_) ?_)
      · by_cases e : u = i
        · rw [e]; omega
        · have := hlow u (by omega); omega
      · by_cases e : v ≤ b i
        · rw [Nat.min_eq_left e]; exact hgot
        · rw [Nat.min_eq_right (by omega)]; exact Or.inr ⟨i, by omega, rfl⟩
  exact l (2 ^ cnt) 0 N (2 ^ 60) (by omega) (by omega) (Nat.le_refl _) (fun u hu => by omega) (Or.inl rfl)
theorem b26 {N cnt nfi : Nat} {s : Sx} {post : Int64 → Sx → Prop} (hN : 20000 ≤ N) (hC : IC s) (hF : IF s) (hc7 : cnt ≤ 7) (hn3 : nfi ≤ 3) (ec : s.1 0 1 4 = nI cnt) (en : s.1 0 25 4 = nI nfi) (gp : ∀ S v, LV s S → (∀ a : Nat → Nat, (∀ c, c < cnt → a c ≤ nfi) → v ≤ wg s cnt a nfi) → (∃ a : Nat → Nat, (∀ c, c < cnt → a c ≤ nfi) ∧ v = wg s cnt a nfi) → post (lN v) S) : ∀ m f fuel (S : Sx), f + m = nfi → m < fuel → LV s S → (∀ u, u < 2 ^ cnt → ∃ v, S.2.1 0 33 u = lN v ∧ BP s cnt f u v) → w_X1_bestCall_26 N post fuel S (nI (2 ^ cnt)) (nI f) := by
  have h128 := p2_le hc7
  intro m
  induction m with
  | zero =>
    intro f fuel S hm hfu h h33
    obtain ⟨fu, rfl⟩ : ∃ g, fuel = g + 1 := ⟨fuel - 1, by omega⟩
    have hf : f = nfi := by omega
    subst hf
    have en' : S.1 0 25 4 = nI f := by rw [h.2.1 25 (by decide) (by decide), en]
    simp only [w_X1_bestCall_26, en', nle (show f < 2 ^ 31 by omega) (show f < 2 ^ 31 by omega), Nat.le_refl, true_implies, false_implies, implies_true, not_true_eq_false, not_false_eq_true, not_true, not_false_iff, and_true, true_and, and_false, false_and, true_or, or_true, i1n0, i0e0]
    exact b112 hN hC hF hc7 hn3 h33 (fun v h1 h2 => gp S v h h1 h2)
  | succ m ih =>
    intro f fuel S hm hfu h h33
    obtain ⟨fu, rfl⟩ : ∃ g, fuel = g + 1 := ⟨fuel - 1, by omega⟩
    have en' : S.1 0 25 4 = nI nfi := by rw [h.2.1 25 (by decide) (by decide), en]
    have ec' : S.1 0 1 4 = nI cnt := by rw [h.2.1 1 (by decide) (by decide), ec]
    simp only [w_X1_bestCall_26, en', nle (show nfi < 2 ^ 31 by omega) (show f < 2 ^ 31 by omega), show ¬ nfi ≤ f by omega, true_implies, false_implies, implies_true, not_true_eq_false, not_false_eq_true, not_true, not_false_iff, and_true, true_and, and_false, false_and, true_or, or_true, i1n0, i0e0]
    refine lu_eq hN (h.ic hC) (h.if_ hF) hc7 (by omega) ec' (fun S' g1 g2 g3 => ?_)
    rw [h.hr f] at g2 g3
    have hnw : wi (s.1 0 28 f) 1 60 := hF.2.2.2.2.2.2.2.2.2.2 f (by rw [en, nI_clamp (by omega)]; omega)
    exact b43 hN hC hF hc7 (by omega) ec hnw (fun S2 h1 h2 => ih (f + 1) fu S2 (by omega) (by omega) h1 h2) (2 ^ cnt) 0 N S' (by omega) (by omega) (h.lu g1) g2 g3 (fun u hu => by omega) (fun u hu => by rw [g1.1]; exact h33 u hu)
theorem fillL {N : Nat} {s : Sx} {x : Int64} {post : Sx → Prop} (g : ∀ S', LV s S' → (∀ u, u < 128 → S'.2.1 0 33 u = x) → post S') : ∀ m i fuel (S : Sx), i + m = 128 → m < fuel → LV s S → (∀ u, u < i → S.2.1 0 33 u = x) → w_J7_fill_d0a16_6 N 33 128 post fuel S x (nI i) (nI 128) := by
  intro m
  induction m with
  | zero =>
    intro i fuel S hm hfu h hx
    obtain ⟨fu, rfl⟩ : ∃ g, fuel = g + 1 := ⟨fuel - 1, by omega⟩
    have hi : i = 128 := by omega
    subst hi
    simp only [w_J7_fill_d0a16_6, nle (show 128 < 2 ^ 31 by omega) (show 128 < 2 ^ 31 by omega), Nat.le_refl, true_implies, false_implies, implies_true, not_true_eq_false, not_false_eq_true, not_true, not_false_iff, and_true, true_and, and_false, false_and, true_or, or_true, i1n0, i0e0]
    exact g S h hx
  | succ m ih =>
    intro i fuel S hm hfu h hx
    obtain ⟨fu, rfl⟩ : ∃ g, fuel = g + 1 := ⟨fuel - 1, by omega⟩
    have hv : vp_in (nI i) 128 := vp_in_nI (by omega) (by decide)
    simp only [w_J7_fill_d0a16_6, nle (show 128 < 2 ^ 31 by omega) (show i < 2 ^ 31 by omega), show ¬ 128 ≤ i by omega, true_implies, false_implies, implies_true, not_true_eq_false, not_false_eq_true, not_true, not_false_iff, and_true, true_and, and_false, false_and, true_or, or_true, i1n0, i0e0, hv, forall_eq, nI_1, nI_clamp (show i < 2 ^ 31 by omega)]
    refine ih (i + 1) fu _ (by omega) (by omega) h.sj (fun u hu => ?_)
    rw [rdJ, if_pos ⟨rfl, rfl⟩]
    by_cases e : u = i
    · rw [e, pk_uLs]
    · rw [pk_uLn e]; exact hx u (by omega)
theorem sh_2 : ∀ c, c < 8 → (1 : Int32) <<< (nI c &&& 31) = nI (2 ^ c) := by decide +kernel
theorem bcl_eq {N cnt nfi : Nat} {s : Sx} {post : Int64 → Sx → Prop} (hN : 20000 ≤ N) (hC : IC s) (hF : IF s) (hc7 : cnt ≤ 7) (hn3 : nfi ≤ 3) (ec : s.1 0 1 4 = nI cnt) (en : s.1 0 25 4 = nI nfi) (gp : ∀ S v, LV s S → (∀ a : Nat → Nat, (∀ c, c < cnt → a c ≤ nfi) → v ≤ wg s cnt a nfi) → (∃ a : Nat → Nat, (∀ c, c < cnt → a c ≤ nfi) ∧ v = wg s cnt a nfi) → post (lN v) S) : w_X1_bestCall N s post := by
  have h128 := p2_le hc7
  unfold w_X1_bestCall w_J7_fill_d0a16
  intro x hx y hy
  rw [ec, sh_2 cnt (by omega)] at hx
  rw [hx, hy]
  refine fillL (s := s) (fun S h h33 => ?_) 128 0 N s (by omega) (by omega) (LV.refl s) (fun u hu => by omega)
  refine ⟨vp_in_nI (n := 0) (by decide) (by decide), fun S' hS' => ?_⟩
  have e0 : (0 : Int32).toNatClampNeg = 0 := by decide
  rw [hS', e0]
  refine b26 hN hC hF hc7 hn3 ec en gp nfi 0 N _ (by omega) (by omega) h.sj (fun u hu => ?_)
  rw [rdJ, if_pos ⟨rfl, rfl⟩]
  by_cases e : u = 0
  · rw [e, pk_uLs]; exact ⟨0, rfl, BP_0 hc7⟩
  · rw [pk_uLn e, h33 u (by omega)]; exact ⟨2 ^ 60, rfl, BP_1 hc7 hu e⟩
