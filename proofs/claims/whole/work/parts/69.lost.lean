theorem dg_lt {B : Nat} (hB : 0 < B) : ∀ n x c, dg B n x c < B
  | 0, _, _ => hB
  | n + 1, x, c => by
    show (if c = n then x % B else dg B n (x / B) c) < B
    by_cases e : c = n
    · rw [if_pos e]; exact Nat.mod_lt _ hB
    · rw [if_neg e]; exact dg_lt hB n _ _
/-- the reference's loss of the call x -/
theorem lb_eq {N cnt nfi x : Nat} {s V : Sx} {post : Int32 → Sx → Prop} (hN : 20000 ≤ N) (hC : IC s) (hF : IF s) (hc7 : cnt ≤ 7) (hn3 : nfi ≤ 3) (ec : s.1 0 1 4 = nI cnt) (en : s.1 0 25 4 = nI nfi) (hx30 : x < 2 ^ 30) (h5 : ∀ n, n ≠ 61 → n ≠ 62 → V.1 5 n = s.1 5 n) (h6 : V.1 6 0 = s.1 6 0) (h62 : ∀ c' f', f' < nfi → c' < cnt → V.1 5 62 (3 * c' + f') = nI (hrn s f' c')) (g : ∀ T, LM V T → T.1 5 62 = V.1 5 62 → (∀ c, c < cnt → T.1 5 61 c = nI (dg (nfi + 1) cnt x c)) → post (ls s cnt nfi x nfi) T) : w_X12_lostBy N (nI x) V post := by
  have en' : V.1 6 0 55 = nI nfi := by rw [h6, ← hF.1, en]
  have ec' : V.1 6 0 5 = nI cnt := by rw [h6, ← hC.1, ec]
  have em1 : nI cnt - 1 = nI cnt + (-1) := by rw [Int32.sub_eq_add_neg]
  simp only [w_X12_lostBy, w_X12_layCall, ec', forall_eq, em1]
  refine lc_lp hn3 hc7 en' cnt x N V (Nat.le_refl _) hx30 (by omega) (LM.refl V) (fun T g1 g2 g3 _ => ?_)
  have e6 : T.1 6 0 = s.1 6 0 := by rw [g1.2.1 6 (by decide), h6]
  have e5 : ∀ n, n ≠ 61 → n ≠ 62 → T.1 5 n = s.1 5 n := fun n a b => by rw [g1.2.2 n a b, h5 n a b]
  have en2 : T.1 6 0 55 = nI nfi := by rw [e6, ← hF.1, en]
  have l : ∀ m f fuel, f + m = nfi → m < fuel → w_X12_lostBy_9 N post fuel T (ls s cnt nfi x f) (nI f) := by
    intro m
    induction m with
    | zero =>
      intro f fuel hm hfu
      obtain ⟨fu, rfl⟩ : ∃ g, fuel = g + 1 := ⟨fuel - 1, by omega⟩
      have hf : f = nfi := by omega
      simp only [w_X12_lostBy_9, en2, nle (show nfi < 2 ^ 31 by omega) (show f < 2 ^ 31 by omega), show nfi ≤ f by omega, true_implies, false_implies, implies_true, not_true_eq_false, not_false_eq_true, not_true, not_false_iff, and_true, true_and, and_false, false_and, true_or, or_true, i1n0, i0e0]
      rw [hf]
      exact g T g1 g2 g3
    | succ m ih =>
      intro f fuel hm hfu
      obtain ⟨fu, rfl⟩ : ∃ g, fuel = g + 1 := ⟨fuel - 1, by omega⟩
      have hv : vp_in (nI f) 3 := vp_in_nI (by omega) (by decide)
      simp only [w_X12_lostBy_9, en2, nle (show nfi < 2 ^ 31 by omega) (show f < 2 ^ 31 by omega), show ¬ nfi ≤ f by omega, true_implies, false_implies, implies_true, not_true_eq_false, not_false_eq_true, not_true, not_false_iff, and_true, true_and, and_false, false_and, true_or, or_true, i1n0, i0e0, hv]
      refine hi_eq (x := x) hN hC hF hc7 hn3 (by omega) ec en e6 (e5 58 (by decide) (by decide)) (e5 60 (by decide) (by decide)) g3 (fun c hc => by rw [g2]; exact h62 c f (by omega) hc) (fun c => by have := dg_lt (B := nfi + 1) (by omega) cnt x c; omega) ?_
      simp only [forall_eq, nI_1, nI_clamp (show f < 2 ^ 31 by omega), e5 59 (by decide) (by decide), ← hF.2.2.2.2.2.1]
      exact ih (f + 1) fu (by omega) (by omega)
  exact l nfi 0 N (by omega) (by omega)
theorem pw_le {nfi : Nat} (hn3 : nfi ≤ 3) {c : Nat} (hc : c ≤ 7) : (nfi + 1) ^ c ≤ 16384 := Nat.le_trans (Nat.pow_le_pow_left (show nfi + 1 ≤ 4 by omega) c) (Nat.le_trans (Nat.pow_le_pow_right (by decide) hc) (by decide))
theorem ic_eq {N cnt nfi : Nat} {x : Int32} {s : Sx} {post : Int32 → Sx → Prop} (hN : 20000 ≤ N) (hc7 : cnt ≤ 7) (hn3 : nfi ≤ 3) (ec : s.1 0 1 4 = nI cnt) (en : s.1 0 25 4 = nI nfi) (g1 : wi x 0 (nI ((nfi + 1) ^ cnt) - 1) → post 1 s) (g0 : ¬ wi x 0 (nI ((nfi + 1) ^ cnt) - 1) → post 0 s) : w_X1_isCall N x s post := by
  have l : ∀ m c fuel, c + m = cnt → m < fuel → w_X1_isCall_5 N post fuel s x (nI ((nfi + 1) ^ c)) (nI c) := by
    intro m
    induction m with
    | zero =>
      intro c fuel hm hfu
      obtain ⟨fu, rfl⟩ : ∃ g, fuel = g + 1 := ⟨fuel - 1, by omega⟩
      have hf : c = cnt := by omega
      subst hf
      simp only [w_X1_isCall_5, ec, nle (show c < 2 ^ 31 by omega) (show c < 2 ^ 31 by omega), Nat.le_refl, true_implies, false_implies, implies_true, not_true_eq_false, not_false_eq_true, not_true, not_false_iff, and_true, true_and, and_false, false_and, true_or, or_true, i1n0, i0e0, wi_eq]
      exact ⟨g1, g0⟩
    | succ m ih =>
      intro c fuel hm hfu
      obtain ⟨fu, rfl⟩ : ∃ g, fuel = g + 1 := ⟨fuel - 1, by omega⟩
      simp only [w_X1_isCall_5, ec, en, nle (show cnt < 2 ^ 31 by omega) (show c < 2 ^ 31 by omega), show ¬ cnt ≤ c by omega, true_implies, false_implies, implies_true, not_true_eq_false, not_false_eq_true, not_true, not_false_iff, and_true, true_and, and_false, false_and, true_or, or_true, i1n0, i0e0, forall_eq, nI_1, pk_mul]
      rw [← Nat.pow_succ]
      exact ih (c + 1) fu (by omega) (by omega)
  exact l cnt 0 N (by omega) (by omega)
theorem cl_eq {N cnt nfi : Nat} {T : Sx} {post : Int32 → Sx → Prop} (hN : 20000 ≤ N) (hc7 : cnt ≤ 7) (hn3 : nfi ≤ 3) (ec : T.1 6 0 5 = nI cnt) (en : T.1 6 0 55 = nI nfi) (g : post (nI ((nfi + 1) ^ cnt)) T) : w_X12_calls N T post := by
  have l : ∀ m c fuel, c + m = cnt → m < fuel → w_X12_calls_4 N post fuel T (nI ((nfi + 1) ^ c)) (nI c) := by
    intro m
    induction m with
    | zero =>
      intro c fuel hm hfu
      obtain ⟨fu, rfl⟩ : ∃ g, fuel = g + 1 := ⟨fuel - 1, by omega⟩
      have hf : c = cnt := by omega
      subst hf
      simp only [w_X12_calls_4, ec, nle (show c < 2 ^ 31 by omega) (show c < 2 ^ 31 by omega), Nat.le_refl, true_implies, false_implies, implies_true, not_true_eq_false, not_false_eq_true, not_true, not_false_iff, and_true, true_and, and_false, false_and, true_or, or_true, i1n0, i0e0]
      exact g
    | succ m ih =>
      intro c fuel hm hfu
      obtain ⟨fu, rfl⟩ : ∃ g, fuel = g + 1 := ⟨fuel - 1, by omega⟩
      simp only [w_X12_calls_4, ec, en, nle (show cnt < 2 ^ 31 by omega) (show c < 2 ^ 31 by omega), show ¬ cnt ≤ c by omega, true_implies, false_implies, implies_true, not_true_eq_false, not_false_eq_true, not_true, not_false_iff, and_true, true_and, and_false, false_and, true_or, or_true, i1n0, i0e0, forall_eq, nI_1, pk_mul]
      rw [← Nat.pow_succ]
      exact ih (c + 1) fu (by omega) (by omega)
  exact l cnt 0 N (by omega) (by omega)
/-- what a question to fires leaves alone -/
theorem Inv.fir {k : Nat} {s S : Sx} (hI : Inv k s) (h0 : ∀ n, n ≠ 30 → n ≠ 31 → S.1 0 n = s.1 0 n) (hk : ∀ k, k ≠ 0 → k ≠ 5 → S.1 k = s.1 k) (h5 : ∀ n, n ≠ 61 → n ≠ 62 → S.1 5 n = s.1 5 n) (hc : S.2.2 = s.2.2) : Inv (k + 1) S := by
  have hI2 := hI.up
  obtain ⟨hIC, hIM, hIP, hIZ, hIR, hIY, hIW, hIT, hIF, hIL, hIS⟩ := id hI
  refine ⟨?_, ?_, ?_, ?_, ?_, ?_, ?_, ?_, ?_, ?_, ?_⟩
  · apply IC.of (s := s) <;> first | exact hIC | exact h0 _ (by decide) (by decide) | exact congrFun (h0 _ (by decide) (by decide)) _ | exact h5 _ (by decide) (by decide) | exact hk _ (by decide) (by decide) | exact congrFun (congrFun (hk _ (by decide) (by decide)) _) _ | exact congrFun hc _
  · apply IM.of (s := s) <;> first | exact hIM | exact h0 _ (by decide) (by decide) | exact congrFun (h0 _ (by decide) (by decide)) _ | exact h5 _ (by decide) (by decide) | exact hk _ (by decide) (by decide) | exact congrFun (congrFun (hk _ (by decide) (by decide)) _) _ | exact congrFun hc _
  · apply IP.of (s := s) <;> first | exact hIP | exact h0 _ (by decide) (by decide) | exact congrFun (h0 _ (by decide) (by decide)) _ | exact h5 _ (by decide) (by decide) | exact hk _ (by decide) (by decide) | exact congrFun (congrFun (hk _ (by decide) (by decide)) _) _ | exact congrFun hc _
  · apply IZ.of (s := s) <;> first | exact hIZ | exact h0 _ (by decide) (by decide) | exact congrFun (h0 _ (by decide) (by decide)) _ | exact h5 _ (by decide) (by decide) | exact hk _ (by decide) (by decide) | exact congrFun (congrFun (hk _ (by decide) (by decide)) _) _ | exact congrFun hc _
  · apply IR.of (s := s) <;> first | exact hIR | exact h0 _ (by decide) (by decide) | exact congrFun (h0 _ (by decide) (by decide)) _ | exact h5 _ (by decide) (by decide) | exact hk _ (by decide) (by decide) | exact congrFun (congrFun (hk _ (by decide) (by decide)) _) _ | exact congrFun hc _
  · apply IY.of (s := s) <;> first | exact hIY | exact h0 _ (by decide) (by decide) | exact congrFun (h0 _ (by decide) (by decide)) _ | exact h5 _ (by decide) (by decide) | exact hk _ (by decide) (by decide) | exact congrFun (congrFun (hk _ (by decide) (by decide)) _) _ | exact congrFun hc _
  · apply IW.of (s := s) <;> first | exact hIW.up | exact h0 _ (by decide) (by decide) | exact congrFun (h0 _ (by decide) (by decide)) _ | exact h5 _ (by decide) (by decide) | exact hk _ (by decide) (by decide) | exact congrFun (congrFun (hk _ (by decide) (by decide)) _) _ | exact congrFun hc _
  · apply IT.of (s := s) <;> first | exact hIT | exact h0 _ (by decide) (by decide) | exact congrFun (h0 _ (by decide) (by decide)) _ | exact h5 _ (by decide) (by decide) | exact hk _ (by decide) (by decide) | exact congrFun (congrFun (hk _ (by decide) (by decide)) _) _ | exact congrFun hc _
  · apply IF.of (s := s) <;> first | exact hIF | exact h0 _ (by decide) (by decide) | exact congrFun (h0 _ (by decide) (by decide)) _ | exact h5 _ (by decide) (by decide) | exact hk _ (by decide) (by decide) | exact congrFun (congrFun (hk _ (by decide) (by decide)) _) _ | exact congrFun hc _
  · apply IL.of (s := s) <;> first | exact hIL | exact h0 _ (by decide) (by decide) | exact congrFun (h0 _ (by decide) (by decide)) _ | exact h5 _ (by decide) (by decide) | exact hk _ (by decide) (by decide) | exact congrFun (congrFun (hk _ (by decide) (by decide)) _) _ | exact congrFun hc _
  · apply IS.of (s := s) <;> first | exact hIS | exact h0 _ (by decide) (by decide) | exact congrFun (h0 _ (by decide) (by decide)) _ | exact h5 _ (by decide) (by decide) | exact hk _ (by decide) (by decide) | exact congrFun (congrFun (hk _ (by decide) (by decide)) _) _ | exact congrFun hc _
theorem Inv.lum {k : Nat} {s S T : Sx} (hI : Inv k s) (h : LU s S) (g : LM S T) : Inv (k + 1) T := hI.fir (fun n n0 n1 => by rw [g.2.1 0 (by decide), h.2.2 n n0 n1]) (fun k k0 k5 => by rw [g.2.1 k k5, h.2.1 k k0]) (fun n n0 n1 => by rw [g.2.2 n n0 n1, h.2.1 5 (by decide)]) (by rw [g.1, h.1])
set_option maxHeartbeats 1000000 in
theorem cs_lost {N k : Nat} {s : Sx} (hN : 20000 ≤ N) (hk : k ≤ 600) (hI : Inv k s) (x1 : Int32) (P : Int32 → Int32 → Sx → Prop) (hP : ∀ r s', Inv (k + 1) s' → P r r s') : w_X11_lost N x1 s (fun r s1 => w_X12_lost N x1 s1 (fun r2 s2 => P r r2 s2)) := by
  have hI2 := hI.up
  obtain ⟨hIC, hIM, hIP, hIZ, hIR, hIY, hIW, hIT, hIF, hIL, hIS⟩ := id hI
  obtain ⟨c1, c2, -⟩ := id hIC
  obtain ⟨f1, f2, -⟩ := id hIF
  obtain ⟨cnt, hc7, ec⟩ := wi_n (n := 7) (by decide) c2
  obtain ⟨nfi, hn3, en⟩ := wi_n (n := 3) (by decide) f2
  have hpw := pw_le hn3 hc7
  have hpos : 0 < (nfi + 1) ^ cnt := Nat.pow_pos (by omega)
  have hcw : wi (nI ((nfi + 1) ^ cnt)) 0 (nI 16384) := wi_nI hpw (by decide)
  have hcond := fun (A B : Prop) => mord_eq (x := x1) (c := nI ((nfi + 1) ^ cnt)) (M := 16384) (by decide) hcw A B
  have hmod : ∀ (S : Sx) (Q : Int32 → Sx → Prop), LU s S → (¬ wi x1 0 (nI ((nfi + 1) ^ cnt) - 1) → ∀ T, LM S T → Q (-2) T) → (wi x1 0 (nI ((nfi + 1) ^ cnt) - 1) → ∀ T, LM S T → (∀ c' f', f' < nfi → c' < cnt → T.1 5 62 (3 * c' + f') = nI (hrn s f' c')) → w_X12_lostBy N x1 T (fun r_7 s_6 => Q r_7 s_6)) → w_X12_lost N x1 S Q := by
    intro S Q h g0 g1
    unfold w_X12_lost
    refine lyh_eq hN hIC hIF hc7 hn3 ec en (h.2.1 5 (by decide)) (congrFun (h.2.1 6 (by decide)) 0) (fun T t1 t2 => ?_)
    have e5 : T.1 6 0 5 = nI cnt := by rw [t1.2.1 6 (by decide), h.2.1 6 (by decide), ← c1, ec]
    have e55 : T.1 6 0 55 = nI nfi := by rw [t1.2.1 6 (by decide), h.2.1 6 (by decide), ← f1, en]
    by_cases hw : wi x1 0 (nI ((nfi + 1) ^ cnt) - 1)
    · have hd := (hcond (w_X12_lostBy N x1 T (fun r_7 s_6 => Q r_7 s_6)) (Q (-2) T)).mpr ⟨fun _ => g1 hw T t1 t2, fun q => absurd hw q⟩
      refine ⟨hd.1, fun q => cl_eq hN hc7 hn3 e5 e55 (hd.2 q)⟩
    · have hd := (hcond (w_X12_lostBy N x1 T (fun r_7 s_6 => Q r_7 s_6)) (Q (-2) T)).mpr ⟨fun q => absurd q hw, fun _ => g0 hw T t1⟩
      refine ⟨hd.1, fun q => cl_eq hN hc7 hn3 e5 e55 (hd.2 q)⟩
  have hr : LU s s := ⟨rfl, fun _ _ => rfl, fun _ _ _ => rfl⟩
  unfold w_X11_lost
  refine ic_eq hN hc7 hn3 ec en (fun hw => ?_) (fun hw => ?_)
  · simp only [true_implies, false_implies, implies_true, not_true_eq_false, not_false_eq_true, not_true, not_false_iff, and_true, true_and, and_false, false_and, true_or, or_true, i1n0, i0e0, w_X1_lostByCall]
    obtain ⟨x, rfl, hx1, hx2, hx3, hx4⟩ := inC (M := 16384) (by decide) hcw hw
    refine lb_loop hN hIC hIF hc7 hn3 ec en (by omega) (fun S' h => ?_) nfi 0 N s (by omega) (by omega) hr
    refine hmod S' _ h (fun q => absurd hw q) (fun _ T t1 t2 => ?_)
    refine lb_eq hN hIC hIF hc7 hn3 ec en (by omega) (fun n a b => by rw [t1.2.2 n a b, h.2.1 5 (by decide)]) (by rw [t1.2.1 6 (by decide), h.2.1 6 (by decide)]) t2 (fun U u1 _ _ => ?_)
    exact hP _ _ (hI.lum h (t1.trans u1))
  · simp only [true_implies, false_implies, implies_true, not_true_eq_false, not_false_eq_true, not_true, not_false_iff, and_true, true_and, and_false, false_and, true_or, or_true, i1n0, i0e0]
    refine hmod s _ hr (fun _ T t1 => hP _ _ (hI.lum hr t1)) (fun q => absurd q hw)
