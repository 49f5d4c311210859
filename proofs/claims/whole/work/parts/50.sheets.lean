/-! sheets -/
theorem IS_iff {s : Sx} : IS s ↔ ∀ j, j < 4 → is1 s j := by
  refine ⟨fun h j hj => ?_, fun h => ⟨h 0 (by decide), h 1 (by decide), h 2 (by decide), h 3 (by decide)⟩⟩
  obtain ⟨h0, h1, h2, h3⟩ := h
  match j, hj with
  | 0, _ => exact h0
  | 1, _ => exact h1
  | 2, _ => exact h2
  | 3, _ => exact h3
theorem Inv.sh {k : Nat} {s S : Sx} (hI : Inv k s) (h0 : ∀ n, 0 < n → n < 42 → S.1 0 n = s.1 0 n) (h00 : ∀ i, i < 14 → S.1 0 0 i = s.1 0 0 i) (h6 : ∀ i, 0 < i → S.1 6 0 i = s.1 6 0 i) (h1 : S.1 1 = s.1 1) (h2 : S.1 2 = s.1 2) (h3 : S.1 3 = s.1 3) (h5 : ∀ n, 4 < n → S.1 5 n = s.1 5 n) (hc : S.2.2 = s.2.2) (hz : S.1 0 0 14 = S.1 6 0 0) (hs : IS S) : Inv (k + 1) S := by
  have hI2 := hI.up
  obtain ⟨hIC, hIM, hIP, hIZ, hIR, hIY, hIW, hIT, hIF, hIL, hIS⟩ := id hI
  refine ⟨?_, ?_, ?_, ⟨?_, hz⟩, ?_, ?_, ?_, ?_, ?_, ?_, hs⟩
  rotate_left 3
  · rw [h00 _ (by decide), h6 _ (by decide)]; exact hIZ.1
  rotate_left 6
  · apply IC.of (s := s) <;> first | exact hIC | exact h00 _ (by decide) | exact h6 _ (by decide) | exact h0 _ (by decide) (by decide) | exact h5 _ (by decide) | exact congrFun (h0 _ (by decide) (by decide)) _ | exact congrFun hc _ | assumption
  · apply IM.of (s := s) <;> first | exact hIM | exact h00 _ (by decide) | exact h6 _ (by decide) | exact h0 _ (by decide) (by decide) | exact h5 _ (by decide) | exact congrFun (h0 _ (by decide) (by decide)) _ | exact congrFun hc _ | assumption
  · apply IP.of (s := s) <;> first | exact hIP | exact h00 _ (by decide) | exact h6 _ (by decide) | exact h0 _ (by decide) (by decide) | exact h5 _ (by decide) | exact congrFun (h0 _ (by decide) (by decide)) _ | exact congrFun hc _ | assumption
  · apply IR.of (s := s) <;> first | exact hIR | exact h00 _ (by decide) | exact h6 _ (by decide) | exact h0 _ (by decide) (by decide) | exact h5 _ (by decide) | exact congrFun (h0 _ (by decide) (by decide)) _ | exact congrFun hc _ | assumption
  · apply IY.of (s := s) <;> first | exact hIY | exact h00 _ (by decide) | exact h6 _ (by decide) | exact h0 _ (by decide) (by decide) | exact h5 _ (by decide) | exact congrFun (h0 _ (by decide) (by decide)) _ | exact congrFun hc _ | assumption
  · apply IW.of (s := s) <;> first | exact hIW.up | exact h00 _ (by decide) | exact h6 _ (by decide) | exact h0 _ (by decide) (by decide) | exact h5 _ (by decide) | exact congrFun (h0 _ (by decide) (by decide)) _ | exact congrFun hc _ | assumption
  · apply IT.of (s := s) <;> first | exact hIT | exact h00 _ (by decide) | exact h6 _ (by decide) | exact h0 _ (by decide) (by decide) | exact h5 _ (by decide) | exact congrFun (h0 _ (by decide) (by decide)) _ | exact congrFun hc _ | assumption
  · apply IF.of (s := s) <;> first | exact hIF | exact h00 _ (by decide) | exact h6 _ (by decide) | exact h0 _ (by decide) (by decide) | exact h5 _ (by decide) | exact congrFun (h0 _ (by decide) (by decide)) _ | exact congrFun hc _ | assumption
  · apply IL.of (s := s) <;> first | exact hIL | exact h00 _ (by decide) | exact h6 _ (by decide) | exact h0 _ (by decide) (by decide) | exact h5 _ (by decide) | exact congrFun (h0 _ (by decide) (by decide)) _ | exact congrFun hc _ | assumption
def setA (s : Sx) (k j : Nat) (f : Nat → Int32) : Sx := (fun k' j' => if k' = k ∧ j' = j then f else s.1 k' j', s.2)
theorem setI_A (s : Sx) (k j i : Nat) (v : Int32) : setI s k j i v = setA s k j (upd (s.1 k j) i v) := rfl
theorem rdA (s : Sx) (k j : Nat) (f : Nat → Int32) (k' j' : Nat) : (setA s k j f).1 k' j' = if k' = k ∧ j' = j then f else s.1 k' j' := rfl
theorem rdA2 (s : Sx) (k j : Nat) (f : Nat → Int32) : (setA s k j f).2 = s.2 := rfl
theorem setAA (s : Sx) (k j : Nat) (f g : Nat → Int32) : setA (setA s k j f) k j g = setA s k j g := by
  unfold setA
  refine Prod.ext ?_ rfl
  funext k' j'
  by_cases h : k' = k ∧ j' = j <;> simp [h]
theorem setA_self (s : Sx) (k j : Nat) (f : Nat → Int32) (h : f = s.1 k j) : setA s k j f = s := by
  subst h
  unfold setA
  refine Prod.ext ?_ rfl
  funext k' j'
  by_cases h : k' = k ∧ j' = j
  · obtain ⟨rfl, rfl⟩ := h; simp
  · simp [h]
def ft (s : Sx) (j : Nat) (l i n : Int32) : Int32 := if s.1 5 2 j = (-9) then 1 else if s.1 5 2 j = l then (if 0 ≤ n then (if 0 ≤ i ∧ i ≤ s.1 5 3 j then (if s.1 5 3 j - i < n then 3 else 0) else 3) else 4) else 2
theorem ft_cases (s : Sx) (j : Nat) (l i n : Int32) : ft s j l i n = 0 ∨ (¬ ft s j l i n = 0 ∧ ¬ (-10) - ft s j l i n = 0) := by
  unfold ft
  repeat' split
  all_goals first | exact Or.inl rfl | exact Or.inr ⟨by decide, by decide⟩
theorem l9 {x : Int32} (h : wi x 0 2) : ¬ x = (-9) ∧ ¬ x = (-1) := by
  have := wi_i.mp h
  rw [show (0 : Int32).toInt = 0 from by decide] at this
  constructor
  · intro e; rw [e, show (-9 : Int32).toInt = -9 from by decide] at this; omega
  · intro e; rw [e, show (-1 : Int32).toInt = -1 from by decide] at this; omega
theorem fo_eq {N j : Nat} {s S : Sx} {l i n : Int32} {post : Int32 → Sx → Prop} (hj : j < 4) (h : is1 s j) (q : S.1 0 (42 + j) = s.1 0 (42 + j)) (hp : post (ft s j l i n) S) : w_X7_faultOf N j l i n S post := by
  simp only [w_X7_faultOf, wi_eq, true_implies, false_implies, implies_true, not_true_eq_false, not_false_eq_true, not_true, not_false_iff, and_true, true_and, and_false, false_and, true_or, or_true, i1n0, i0e0, q]
  unfold ft at hp
  rcases h.1 with ⟨a, b⟩ | ⟨a, b, c, d⟩
  · simp [b] at hp
    simp [hj, a, hp]
  · obtain ⟨n1, n2⟩ := l9 b
    simp only [n1, if_false] at hp
    rw [a, c]
    simp only [hj, n2, true_implies, false_implies, implies_true, not_true_eq_false, not_false_eq_true, not_true, not_false_iff, and_true, true_and, and_false, false_and, true_or, or_true, i1n0, i0e0]
    by_cases e1 : s.1 5 2 j = l
    · simp only [e1, if_true] at hp
      simp only [e1, true_implies, false_implies, implies_true, not_true_eq_false, not_false_eq_true, not_true, not_false_iff, and_true, true_and, and_false, false_and, true_or, or_true, i1n0, i0e0]
      by_cases e2 : 0 ≤ n
      · simp only [e2, if_true] at hp
        simp only [e2, true_implies, false_implies, implies_true, not_true_eq_false, not_false_eq_true, not_true, not_false_iff, and_true, true_and, and_false, false_and, true_or, or_true, i1n0, i0e0]
        by_cases e3 : wi i 0 (s.1 5 3 j)
        · simp only [show 0 ≤ i ∧ i ≤ s.1 5 3 j from e3, and_self, if_true] at hp
          simp only [e3, true_implies, false_implies, implies_true, not_true_eq_false, not_false_eq_true, not_true, not_false_iff, and_true, true_and, and_false, false_and, true_or, or_true, i1n0, i0e0]
          by_cases e4 : s.1 5 3 j - i < n
          · simp only [e4, if_true] at hp; simp only [e4, true_implies, false_implies, implies_true, not_true_eq_false, not_false_eq_true, not_true, not_false_iff, and_true, true_and, and_false, false_and, true_or, or_true, i1n0, i0e0]; exact hp
          · simp only [e4, if_false] at hp; simp only [e4, true_implies, false_implies, implies_true, not_true_eq_false, not_false_eq_true, not_true, not_false_iff, and_true, true_and, and_false, false_and, true_or, or_true, i1n0, i0e0]; exact hp
        · simp only [show ¬ (0 ≤ i ∧ i ≤ s.1 5 3 j) from e3, if_false] at hp
          simp only [e3, true_implies, false_implies, implies_true, not_true_eq_false, not_false_eq_true, not_true, not_false_iff, and_true, true_and, and_false, false_and, true_or, or_true, i1n0, i0e0]
          exact hp
      · simp only [e2, if_false] at hp
        simp only [e2, true_implies, false_implies, implies_true, not_true_eq_false, not_false_eq_true, not_true, not_false_iff, and_true, true_and, and_false, false_and, true_or, or_true, i1n0, i0e0]
        exact hp
    · simp only [e1, if_false] at hp
      simp only [e1, true_implies, false_implies, implies_true, not_true_eq_false, not_false_eq_true, not_true, not_false_iff, and_true, true_and, and_false, false_and, true_or, or_true, i1n0, i0e0]
      exact hp
theorem ag_eq {N j : Nat} {s S : Sx} {l i n : Int32} {post : Int32 → Sx → Prop} (hj : j < 4) (q2 : S.1 5 2 = s.1 5 2) (q3 : S.1 5 3 = s.1 5 3) (hp : post (ft s j l i n) S) : w_X12_against N (nI j) l i n S post := by
  have hv : vp_in (nI j) 4 := vp_in_nI hj (by decide)
  simp only [w_X12_against, w_X12_against_23, true_implies, false_implies, implies_true, not_true_eq_false, not_false_eq_true, not_true, not_false_iff, and_true, true_and, and_false, false_and, true_or, or_true, i1n0, i0e0, q2, q3, nI_clamp (show j < 2 ^ 31 by omega), hv]
  unfold ft at hp
  by_cases b : s.1 5 2 j = (-9)
  · simp [b] at hp
    simp [b, hp]
  · simp only [b, if_false] at hp
    simp only [b, true_implies, false_implies, implies_true, not_true_eq_false, not_false_eq_true, not_true, not_false_iff, and_true, true_and, and_false, false_and, true_or, or_true, i1n0, i0e0]
    by_cases e1 : s.1 5 2 j = l
    · simp only [e1, if_true] at hp
      simp only [e1, true_implies, false_implies, implies_true, not_true_eq_false, not_false_eq_true, not_true, not_false_iff, and_true, true_and, and_false, false_and, true_or, or_true, i1n0, i0e0]
      by_cases e2 : 0 ≤ n
      · simp only [e2, if_true] at hp
        simp only [e2, true_implies, false_implies, implies_true, not_true_eq_false, not_false_eq_true, not_true, not_false_iff, and_true, true_and, and_false, false_and, true_or, or_true, i1n0, i0e0]
        by_cases e3 : i < 0
        · have e5 : ¬ (0 ≤ i ∧ i ≤ s.1 5 3 j) := fun h => by have h1 := le_.mp h.1; have := lt_.mp e3; omega
          simp only [e5, if_false] at hp
          simp only [e3, true_implies, false_implies, implies_true, not_true_eq_false, not_false_eq_true, not_true, not_false_iff, and_true, true_and, and_false, false_and, true_or, or_true, i1n0, i0e0]
          exact hp
        · have e5 : 0 ≤ i := by rw [le_]; rw [lt_] at e3; omega
          by_cases e6 : s.1 5 3 j < i
          · have e7 : ¬ i ≤ s.1 5 3 j := by rw [le_]; rw [lt_] at e6; omega
            simp only [e7, and_false, if_false] at hp
            simp only [e3, e6, true_implies, false_implies, implies_true, not_true_eq_false, not_false_eq_true, not_true, not_false_iff, and_true, true_and, and_false, false_and, true_or, or_true, i1n0, i0e0]
            exact hp
          · have e7 : i ≤ s.1 5 3 j := by rw [le_]; rw [lt_] at e6; omega
            simp only [e5, e7, and_self, if_true] at hp
            simp only [e3, e6, true_implies, false_implies, implies_true, not_true_eq_false, not_false_eq_true, not_true, not_false_iff, and_true, true_and, and_false, false_and, true_or, or_true, i1n0, i0e0]
            by_cases e8 : s.1 5 3 j - i < n
            · have e9 : ¬ n ≤ s.1 5 3 j - i := by rw [le_]; rw [lt_] at e8; omega
              simp only [e8, if_true] at hp
              simp only [e9, true_implies, false_implies, implies_true, not_true_eq_false, not_false_eq_true, not_true, not_false_iff, and_true, true_and, and_false, false_and, true_or, or_true, i1n0, i0e0]
              exact hp
            · have e9 : n ≤ s.1 5 3 j - i := by rw [le_]; rw [lt_] at e8; omega
              simp only [e8, if_false] at hp
              simp only [e9, true_implies, false_implies, implies_true, not_true_eq_false, not_false_eq_true, not_true, not_false_iff, and_true, true_and, and_false, false_and, true_or, or_true, i1n0, i0e0]
              exact hp
      · simp only [e2, if_false] at hp
        simp only [e2, true_implies, false_implies, implies_true, not_true_eq_false, not_false_eq_true, not_true, not_false_iff, and_true, true_and, and_false, false_and, true_or, or_true, i1n0, i0e0]
        exact hp
    · simp only [e1, if_false] at hp
      simp only [e1, true_implies, false_implies, implies_true, not_true_eq_false, not_false_eq_true, not_true, not_false_iff, and_true, true_and, and_false, false_and, true_or, or_true, i1n0, i0e0]
      exact hp
theorem ft_0 {s : Sx} {j : Nat} {l i n : Int32} (h : is1 s j) (hf : ft s j l i n = 0) : ∃ a b c : Nat, i = nI a ∧ n = nI b ∧ s.1 5 3 j = nI c ∧ a + b ≤ c ∧ c ≤ 60 ∧ s.1 5 2 j = l ∧ ¬ s.1 5 2 j = (-9) ∧ s.1 0 (42 + j) 1 = l := by
  unfold ft at hf
  by_cases e0 : s.1 5 2 j = (-9)
  · simp [e0] at hf
  simp only [e0, if_false] at hf
  by_cases e1 : s.1 5 2 j = l
  case neg => simp [e1] at hf
  simp only [e1, if_true] at hf
  by_cases e2 : 0 ≤ n
  case neg => simp [e2] at hf
  simp only [e2, if_true] at hf
  by_cases e3 : 0 ≤ i ∧ i ≤ s.1 5 3 j
  case neg => simp [e3] at hf
  simp only [e3, and_self, if_true] at hf
  by_cases e4 : s.1 5 3 j - i < n
  · simp [e4] at hf
  rcases h.1 with ⟨a, b⟩ | ⟨a, b, c, d⟩
  · exact absurd b e0
  obtain ⟨c, hc, ec⟩ := wi_n (n := 60) (by decide) d
  obtain ⟨x, hx, ex⟩ := nI_of (x := i) (by rw [lt_]; have := le_.mp e3.1; omega)
  obtain ⟨y, hy, ey⟩ := nI_of (x := n) (by rw [lt_]; have := le_.mp e2; omega)
  have hxc : x ≤ c := by have := e3.2; rw [ex, ec, nle hx (by omega)] at this; exact this
  rw [ec, ex, ey, pk_sub hxc, nlt (by omega) hy] at e4
  exact ⟨x, y, c, ex, ey, ec, by omega, hc, e1, e0, by rw [a, e1]⟩
theorem nf_0 {N : Nat} {S : Sx} {post : Int32 → Sx → Prop} : w_X11_noteFault N 0 S post = post 0 (setI S 0 0 14 0) := by
  simp only [w_X11_noteFault, true_implies, false_implies, implies_true, not_true_eq_false, not_false_eq_true, not_true, not_false_iff, and_true, true_and, and_false, false_and, true_or, or_true, i1n0, i0e0, forall_eq]
theorem nf_n {N : Nat} {f : Int32} {S : Sx} {post : Int32 → Sx → Prop} (h : ¬ f = 0) : w_X11_noteFault N f S post = post ((-10) - f) (setI S 0 0 14 f) := by
  simp only [w_X11_noteFault, h, true_implies, false_implies, implies_true, not_true_eq_false, not_false_eq_true, not_true, not_false_iff, and_true, true_and, and_false, false_and, true_or, or_true, i1n0, i0e0, forall_eq]
theorem in4 {x : Int32} (h : wi x 0 3) : ∃ j : Nat, j < 4 ∧ x = nI j ∧ vp_in x 4 ∧ x.toNatClampNeg = j := by
  obtain ⟨j, hj, rfl⟩ := wi_n (n := 3) (by decide) h
  exact ⟨j, by omega, rfl, vp_in_nI (by omega) (by decide), nI_clamp (by omega)⟩
set_option maxHeartbeats 1000000 in
theorem cs_lose {N k : Nat} {s : Sx} (hN : 20000 ≤ N) (hk : k ≤ 600) (hI : Inv k s) (x1 : Int32) (P : Int32 → Int32 → Sx → Prop) (hP : ∀ r s', Inv (k + 1) s' → P r r s') : w_X11_lose N x1 s (fun r s1 => w_X12_lose N x1 s1 (fun r2 s2 => P r r2 s2)) := by
  have hI2 := hI.up
  obtain ⟨hIC, hIM, hIP, hIZ, hIR, hIY, hIW, hIT, hIF, hIL, hIS⟩ := id hI
  have hS := IS_iff.mp hIS
  simp only [w_X11_lose, w_X11_sheetAt, w_X12_lose, w_X12_isSheet, w_X12_lose_25, w_X7_drop, w_X7_drop_13, wi_eq, wm_eq, forall_eq, rdI, rdU, rdI2, rdJ, rdJ1, rdN, rdN1, rdD, rdD2, rdD3, Nat.reduceEqDiff, and_self, and_true, true_and, and_false, false_and, if_true, if_false, reduceIte, Nat.zero_ne_one, Nat.one_ne_zero, i1n0, i0e0, not_true, not_false_iff, false_implies, true_implies, implies_true, true_implies, false_implies, implies_true, not_true_eq_false, not_false_eq_true, not_true, not_false_iff, and_true, true_and, and_false, false_and, true_or, or_true, i1n0, i0e0, so_n, so_s, no_s]
  by_cases h1 : wi x1 0 3
  case neg => simp [h1, hP _ _ hI2]
  obtain ⟨j, hj, rfl, hv, hc⟩ := in4 h1
  rw [hc]
  have key : ∀ r : Int32, P r r (setI (setI (setI s 0 (42 + j) 1 (-1)) 0 (42 + j) 2 0) 5 2 j (-9)) := by
    intro r
    have z42 : ¬ 0 = 42 + j := by omega
    refine hP _ _ (hI.sh ?_ ?_ ?_ rfl rfl rfl ?_ rfl ?_ ?_)
    · intro n h1 h2; simp [rdI, show ¬ n = 42 + j by omega]
    · intro i h; simp [rdI, z42]
    · intro i h; simp [rdI]
    · intro n h; simp [rdI, show ¬ n = 2 by omega]
    · simp [rdI, z42]; exact hIZ.2
    · rw [IS_iff]
      intro k hk
      have hb := hS k hk
      unfold is1 at hb ⊢
      by_cases e : k = j
      · subst e
        refine ⟨Or.inl ⟨by simp [rdI, rdU], by simp [rdI, rdU]⟩, ?_⟩
        intro i hi
        simp [rdI, show ¬ 46 + k = 42 + k by omega]
        exact hb.2 i hi
      · simp [rdI, rdU, e, show ¬ 46 + k = 42 + j by omega]
        exact hb
  rcases (hS j hj).1 with ⟨a, b⟩ | ⟨a, b, c, d⟩
  · simp [h1, hj, hv, a, b]
    exact key 0
  · obtain ⟨n1, n2⟩ := l9 b
    simp [h1, hj, hv, a, n1, n2]
    exact key 1
theorem fill_c {N c n0 : Nat} {x : Int32} {s : Sx} {post : Sx → Prop} (hn : n0 < 2 ^ 30) (hpost : post (setA s 0 c (fun i => if i < n0 then x else s.1 0 c i))) : ∀ m i fuel, i + m = n0 → m < fuel → w_J7_fill_53178_5 N c n0 post fuel (setA s 0 c (fun i' => if i' < i then x else s.1 0 c i')) x (nI i) (nI n0) := by
  intro m
  induction m with
  | zero =>
    intro i fuel h1 h2
    obtain ⟨f, rfl⟩ : ∃ f, fuel = f + 1 := ⟨fuel - 1, by omega⟩
    have : i = n0 := by omega
    subst this
    simp only [w_J7_fill_53178_5, nle (show i < 2 ^ 31 by omega) (show i < 2 ^ 31 by omega), Nat.le_refl, true_implies, false_implies, implies_true, not_true_eq_false, not_false_eq_true, not_true, not_false_iff, and_true, true_and, and_false, false_and, true_or, or_true, i1n0, i0e0]
    exact hpost
  | succ m ih =>
    intro i fuel h1 h2
    obtain ⟨f, rfl⟩ : ∃ f, fuel = f + 1 := ⟨fuel - 1, by omega⟩
    have hv : vp_in (nI i) n0 := vp_in_nI (by omega) (by omega)
    simp only [w_J7_fill_53178_5, nle (show n0 < 2 ^ 31 by omega) (show i < 2 ^ 31 by omega), show ¬ n0 ≤ i by omega, true_implies, false_implies, implies_true, not_true_eq_false, not_false_eq_true, not_true, not_false_iff, and_true, true_and, and_false, false_and, true_or, or_true, i1n0, i0e0, hv, forall_eq, nI_1, nI_clamp (show i < 2 ^ 31 by omega)]
    have e : setI (setA s 0 c (fun i' => if i' < i then x else s.1 0 c i')) 0 c i x = setA s 0 c (fun i' => if i' < i + 1 then x else s.1 0 c i') := by
      rw [setI_A, setAA]
      congr 1
      funext q
      simp only [rdU, rdA, and_self, if_true]
      by_cases h : q = i
      · simp [h]
      · by_cases h2 : q < i
        · simp [h, h2, show q < i + 1 by omega]
        · simp [h, h2, show ¬ q < i + 1 by omega]
    rw [e]
    exact ih (i + 1) f (by omega) (by omega)
theorem fill_m {N j : Nat} {s : Sx} {post : Int32 → Sx → Prop} (hj : j < 4) (hpost : post 1 (setA s 5 4 (fun q => if 60 * j ≤ q ∧ q < 60 * j + 60 then 0 else s.1 5 4 q))) : ∀ m i fuel, i + m = 60 → m < fuel → w_X12_sheet_57 N post fuel (setA s 5 4 (fun q => if 60 * j ≤ q ∧ q < 60 * j + i then 0 else s.1 5 4 q)) (nI j) (nI i) := by
  intro m
  induction m with
  | zero =>
    intro i fuel h1 h2
    obtain ⟨f, rfl⟩ : ∃ f, fuel = f + 1 := ⟨fuel - 1, by omega⟩
    have : i = 60 := by omega
    subst this
    simp only [w_X12_sheet_57, show (60 : Int32) = nI 60 from rfl, nle (show 60 < 2 ^ 31 by omega) (show 60 < 2 ^ 31 by omega), Nat.le_refl, true_implies, false_implies, implies_true, not_true_eq_false, not_false_eq_true, not_true, not_false_iff, and_true, true_and, and_false, false_and, true_or, or_true, i1n0, i0e0]
    exact hpost
  | succ m ih =>
    intro i fuel h1 h2
    obtain ⟨f, rfl⟩ : ∃ f, fuel = f + 1 := ⟨fuel - 1, by omega⟩
    have hv : vp_in (nI (60 * j + i)) 240 := vp_in_nI (by omega) (by omega)
    simp only [w_X12_sheet_57, show (60 : Int32) = nI 60 from rfl, pk_mul, nI_add, nle (show 60 < 2 ^ 31 by omega) (show i < 2 ^ 31 by omega), show ¬ 60 ≤ i by omega, true_implies, false_implies, implies_true, not_true_eq_false, not_false_eq_true, not_true, not_false_iff, and_true, true_and, and_false, false_and, true_or, or_true, i1n0, i0e0, hv, forall_eq, nI_1, nI_clamp (show 60 * j + i < 2 ^ 31 by omega)]
    have e : setI (setA s 5 4 (fun q => if 60 * j ≤ q ∧ q < 60 * j + i then 0 else s.1 5 4 q)) 5 4 (60 * j + i) 0 = setA s 5 4 (fun q => if 60 * j ≤ q ∧ q < 60 * j + (i + 1) then 0 else s.1 5 4 q) := by
      rw [setI_A, setAA]
      congr 1
      funext q
      simp only [rdU, rdA, and_self, if_true]
      by_cases h : q = 60 * j + i
      · rw [if_pos h, if_pos (by omega)]
      · rw [if_neg h]
        by_cases h2 : 60 * j ≤ q ∧ q < 60 * j + i
        · rw [if_pos h2, if_pos (by omega)]
        · rw [if_neg h2, if_neg (by omega)]
    rw [e]
    exact ih (i + 1) f (by omega) (by omega)
theorem l60 {x : Int32} (h1 : x ≤ 60) (h2 : 0 ≤ x) : wi x 0 60 := ⟨h2, h1⟩
set_option maxHeartbeats 1000000 in
theorem cs_sheet {N k : Nat} {s : Sx} (hN : 20000 ≤ N) (hk : k ≤ 600) (hI : Inv k s) (x1 : Int32) (x2 : Int32) (x3 : Int32) (P : Int32 → Int32 → Sx → Prop) (hP : ∀ r s', Inv (k + 1) s' → P r r s') : w_X11_sheet N x1 x2 x3 s (fun r s1 => w_X12_sheet N x1 x2 x3 s1 (fun r2 s2 => P r r2 s2)) := by
  have hI2 := hI.up
  obtain ⟨hIC, hIM, hIP, hIZ, hIR, hIY, hIW, hIT, hIF, hIL, hIS⟩ := id hI
  have hS := IS_iff.mp hIS
  have z0 : ∀ r f : Int32, P r r (setI (setI (setI (setI s 0 0 14 0) 0 0 14 f) 6 0 0 0) 6 0 0 f) := by
    intro r f
    refine hP _ _ ⟨(IC.of rfl rfl rfl rfl rfl rfl rfl rfl rfl rfl hIC), (IM.of rfl rfl hIM), (IP.of rfl rfl rfl rfl rfl rfl rfl rfl rfl rfl hIP), ?_, (IR.of rfl rfl rfl rfl rfl rfl rfl rfl rfl rfl rfl rfl rfl rfl hIR), (IY.of rfl rfl rfl rfl rfl rfl rfl rfl rfl rfl rfl rfl rfl rfl hIY), (IW.of rfl rfl rfl rfl rfl rfl rfl rfl rfl rfl rfl rfl rfl rfl rfl rfl rfl rfl rfl rfl rfl rfl rfl hIW.up), (IT.of rfl rfl rfl rfl rfl rfl rfl rfl rfl rfl rfl rfl hIT), (IF.of rfl rfl rfl rfl rfl rfl rfl rfl rfl rfl hIF), (IL.of rfl rfl rfl rfl rfl rfl rfl rfl rfl rfl hIL), (IS.of rfl rfl rfl rfl rfl rfl rfl rfl rfl rfl rfl hIS)⟩
    exact ⟨hIZ.1, rfl⟩
  have z1 : ∀ r : Int32, P r r (setI (setI s 0 0 14 0) 6 0 0 0) := by
    intro r
    refine hP _ _ ⟨(IC.of rfl rfl rfl rfl rfl rfl rfl rfl rfl rfl hIC), (IM.of rfl rfl hIM), (IP.of rfl rfl rfl rfl rfl rfl rfl rfl rfl rfl hIP), ?_, (IR.of rfl rfl rfl rfl rfl rfl rfl rfl rfl rfl rfl rfl rfl rfl hIR), (IY.of rfl rfl rfl rfl rfl rfl rfl rfl rfl rfl rfl rfl rfl rfl hIY), (IW.of rfl rfl rfl rfl rfl rfl rfl rfl rfl rfl rfl rfl rfl rfl rfl rfl rfl rfl rfl rfl rfl rfl rfl hIW.up), (IT.of rfl rfl rfl rfl rfl rfl rfl rfl rfl rfl rfl rfl hIT), (IF.of rfl rfl rfl rfl rfl rfl rfl rfl rfl rfl hIF), (IL.of rfl rfl rfl rfl rfl rfl rfl rfl rfl rfl hIL), (IS.of rfl rfl rfl rfl rfl rfl rfl rfl rfl rfl rfl hIS)⟩
    exact ⟨hIZ.1, rfl⟩
  simp only [w_X11_sheet, w_X11_sheetAt, w_X11_isLane, w_X11_noteFault, w_X12_sheet, w_X12_isSheet, w_X12_isLane, w_X12_fails, w_X7_renew, w_J7_fill_53178, wi_eq, wm_eq, forall_eq, true_implies, false_implies, implies_true, not_true_eq_false, not_false_eq_true, not_true, not_false_iff, and_true, true_and, and_false, false_and, true_or, or_true, i1n0, i0e0, so_n, so_s, no_s]
  by_cases h1 : wi x1 0 3
  case neg => simp [h1, z1]
  obtain ⟨j, hj, rfl, hv, hc⟩ := in4 h1
  rw [hc]
  by_cases h2 : wi x2 0 2
  case neg => simp [h1, h2, hj, hv, z1]
  by_cases h3 : x3 ≤ 60
  case neg => simp [h1, h2, h3, hj, hv, z1]
  by_cases h4 : 0 ≤ x3
  case neg => simp [h1, h2, h3, h4, hj, hv, z0]
  simp only [h1, h2, h3, h4, hj, hv, true_implies, false_implies, implies_true, not_true_eq_false, not_false_eq_true, not_true, not_false_iff, and_true, true_and, and_false, false_and, true_or, or_true, i1n0, i0e0]
  have key : ∀ r : Int32, P r r (setA (setI (setI (setI (setI (setI (setA (setI s 0 0 14 0) 0 (46 + j) (fun i => if i < 60 then 0 else s.1 0 (46 + j) i)) 0 (42 + j) 1 x2) 0 (42 + j) 2 x3) 6 0 0 0) 5 2 j x2) 5 3 j x3) 5 4 (fun q => if 60 * j ≤ q ∧ q < 60 * j + 60 then 0 else s.1 5 4 q)) := by
    intro r
    have z42 : ¬ 0 = 42 + j := by omega
    have z46 : ¬ 0 = 46 + j := by omega
    refine hP _ _ (hI.sh ?_ ?_ ?_ rfl rfl rfl ?_ rfl ?_ ?_)
    · intro n h1 h2; simp [rdI, rdA, show ¬ n = 42 + j by omega, show ¬ n = 46 + j by omega, show ¬ n = 0 by omega]
    · intro i h; simp [rdI, rdA, rdU, z42, z46, show ¬ i = 14 by omega]
    · intro i h; simp [rdI, rdA, rdU, show ¬ i = 0 by omega]
    · intro n h; simp [rdI, rdA, show ¬ n = 2 by omega, show ¬ n = 3 by omega, show ¬ n = 4 by omega]
    · simp [rdI, rdA, rdU, z42, z46]
    · rw [IS_iff]
      intro k hk
      have hb := hS k hk
      unfold is1 at hb ⊢
      by_cases e : k = j
      · subst e
        refine ⟨Or.inr ⟨by simp [rdI, rdU, rdA], by simp [rdI, rdU, rdA, h2], by simp [rdI, rdU, rdA], by simp [rdI, rdU, rdA]; exact l60 h3 h4⟩, ?_⟩
        intro i hi
        simp [rdI, rdA, show ¬ 46 + k = 42 + k by omega, hi]
      · have hq : ∀ i, i < 60 → ¬ (60 * j ≤ 60 * k + i ∧ 60 * k + i < 60 * j + 60) := by intro i hi; omega
        simp only [rdI, rdU, rdA, e, show ¬ 46 + k = 42 + j by omega, show ¬ 42 + k = 46 + j by omega, show ¬ 42 + k = 42 + j by omega, show ¬ 46 + k = 46 + j by omega, show ¬ 42 + k = 0 by omega, show ¬ 46 + k = 0 by omega, if_false, if_true, and_true, and_false, true_and, false_and, reduceIte, Nat.reduceEqDiff]
        refine ⟨hb.1, fun i hi => ?_⟩
        rw [if_neg (hq i hi)]
        exact hb.2 i hi
  have ef : setI s 0 0 14 0 = setA (setI s 0 0 14 0) 0 (46 + j) (fun i' => if i' < 0 then 0 else (setI s 0 0 14 0).1 0 (46 + j) i') := by
    rw [setA_self]
    funext i
    simp
  rw [ef]
  refine fill_c (by decide) ?_ 60 0 N rfl (by omega)
  generalize hT : setI (setI (setI (setI (setI (setA (setI s 0 0 14 0) 0 (46 + j) (fun i => if i < 60 then 0 else (setI s 0 0 14 0).1 0 (46 + j) i)) 0 (42 + j) 1 x2) 0 (42 + j) 2 x3) 6 0 0 0) 5 2 j x2) 5 3 j x3 = T
  have eg : T = setA T 5 4 (fun q => if 60 * j ≤ q ∧ q < 60 * j + 0 then 0 else T.1 5 4 q) := by
    rw [setA_self]
    funext i
    rw [if_neg (by omega)]
  rw [eg]
  refine fill_m hj ?_ 60 0 N rfl (by omega)
  have := key 1
  rw [← hT]
  simp only [rdI, rdA, show ¬ 46 + j = 0 by omega, if_false, reduceIte, Nat.reduceEqDiff, false_and, and_false, true_and, and_true] at this ⊢
  exact this
theorem ft_1 {s : Sx} {j : Nat} {l i : Int32} (h : is1 s j) (hl : s.1 5 2 j = l) (hn : ¬ s.1 5 2 j = (-9)) : (wi i 0 (s.1 5 3 j - 1) → ft s j l i 1 = 0 ∧ ∃ a : Nat, i = nI a ∧ a < 60) ∧ (¬ wi i 0 (s.1 5 3 j - 1) → ft s j l i 1 = 3) := by
  rcases h.1 with ⟨a, b⟩ | ⟨a, b, c, d⟩
  · exact absurd b hn
  unfold ft
  simp only [hn, hl, if_false, if_true, show (0 : Int32) ≤ 1 from by decide]
  rw [if_neg (fun e => hn (hl.trans e))]
  obtain ⟨c, hc, ec⟩ := wi_n (n := 60) (by decide) d
  constructor
  · intro hw
    obtain ⟨x, rfl, hx1, hx2, hx3, hx4⟩ := inC (M := 60) (by decide) d hw
    rw [ec, nI_clamp (by omega)] at hx1
    rw [ec, pk_sub (by omega), show (1 : Int32) = nI 1 from rfl]
    refine ⟨?_, x, rfl, by omega⟩
    rw [if_pos ⟨nI_pos' (by omega), nI_le (by omega) (by omega)⟩, if_neg (by rw [nlt (by omega) (by omega)]; omega)]
  · intro hw
    by_cases hi : 0 ≤ i ∧ i ≤ s.1 5 3 j
    · rw [if_pos hi]
      obtain ⟨x, hx, ex⟩ := nI_of (x := i) (by rw [lt_]; have := le_.mp hi.1; omega)
      have hxc : x ≤ c := by have := hi.2; rw [ex, ec, nle hx (by omega)] at this; exact this
      rw [ec, ex, pk_sub hxc, show (1 : Int32) = nI 1 from rfl]
      rw [if_pos]
      rw [nlt (by omega) (by omega)]
      rcases Nat.lt_or_ge x c with q | q
      · exfalso
        apply hw
        rw [ec, ex, show (1 : Int32) = nI 1 from rfl, pk_sub (by omega)]
        exact ⟨nI_pos' (by omega), nI_le (by omega) (by omega)⟩
      · omega
    · rw [if_neg hi]
theorem is_put {s S : Sx} {j a : Nat} {v : Int32} (hj : j < 4) (ha : a < 60) (hS : ∀ k, k < 4 → is1 s k) (q1 : ∀ k, k < 4 → S.1 0 (42 + k) = s.1 0 (42 + k)) (q2 : S.1 5 2 = s.1 5 2) (q3 : S.1 5 3 = s.1 5 3) (q4 : ∀ k, k < 4 → S.1 0 (46 + k) = if k = j then upd (s.1 0 (46 + j)) a v else s.1 0 (46 + k)) (q5 : S.1 5 4 = upd (s.1 5 4) (60 * j + a) v) : IS S := by
  rw [IS_iff]
  intro k hk
  have hb := hS k hk
  unfold is1 at hb ⊢
  rw [q1 k hk, q2, q3, q4 k hk, q5]
  refine ⟨hb.1, fun i hi => ?_⟩
  by_cases e : k = j
  · subst e
    rw [if_pos rfl]
    show (if i = a then v else s.1 0 (46 + k) i) = if 60 * k + i = 60 * k + a then v else s.1 5 4 (60 * k + i)
    by_cases e2 : i = a
    · rw [if_pos e2, if_pos (by omega)]
    · rw [if_neg e2, if_neg (by omega)]; exact hb.2 i hi
  · rw [if_neg e]
    show _ = if 60 * k + i = 60 * j + a then v else s.1 5 4 (60 * k + i)
    rw [if_neg (by omega)]
    exact hb.2 i hi
set_option maxHeartbeats 1000000 in
theorem cs_put {N k : Nat} {s : Sx} (hN : 20000 ≤ N) (hk : k ≤ 600) (hI : Inv k s) (x1 : Int32) (x2 : Int32) (x3 : Int32) (P : Int32 → Int32 → Sx → Prop) (hP : ∀ r s', Inv (k + 1) s' → P r r s') : w_X11_put N x1 x2 x3 s (fun r s1 => w_X12_put N x1 x2 x3 s1 (fun r2 s2 => P r r2 s2)) := by
  have hI2 := hI.up
  obtain ⟨hIC, hIM, hIP, hIZ, hIR, hIY, hIW, hIT, hIF, hIL, hIS⟩ := id hI
  have hS := IS_iff.mp hIS
  have z0 : ∀ r f : Int32, P r r (setI (setI (setI (setI s 0 0 14 0) 0 0 14 f) 6 0 0 0) 6 0 0 f) := by
    intro r f
    refine hP _ _ ⟨(IC.of rfl rfl rfl rfl rfl rfl rfl rfl rfl rfl hIC), (IM.of rfl rfl hIM), (IP.of rfl rfl rfl rfl rfl rfl rfl rfl rfl rfl hIP), ?_, (IR.of rfl rfl rfl rfl rfl rfl rfl rfl rfl rfl rfl rfl rfl rfl hIR), (IY.of rfl rfl rfl rfl rfl rfl rfl rfl rfl rfl rfl rfl rfl rfl hIY), (IW.of rfl rfl rfl rfl rfl rfl rfl rfl rfl rfl rfl rfl rfl rfl rfl rfl rfl rfl rfl rfl rfl rfl rfl hIW.up), (IT.of rfl rfl rfl rfl rfl rfl rfl rfl rfl rfl rfl rfl hIT), (IF.of rfl rfl rfl rfl rfl rfl rfl rfl rfl rfl hIF), (IL.of rfl rfl rfl rfl rfl rfl rfl rfl rfl rfl hIL), (IS.of rfl rfl rfl rfl rfl rfl rfl rfl rfl rfl rfl hIS)⟩
    exact ⟨hIZ.1, rfl⟩
  have z1 : ∀ r : Int32, P r r (setI (setI s 0 0 14 0) 6 0 0 0) := by
    intro r
    refine hP _ _ ⟨(IC.of rfl rfl rfl rfl rfl rfl rfl rfl rfl rfl hIC), (IM.of rfl rfl hIM), (IP.of rfl rfl rfl rfl rfl rfl rfl rfl rfl rfl hIP), ?_, (IR.of rfl rfl rfl rfl rfl rfl rfl rfl rfl rfl rfl rfl rfl rfl hIR), (IY.of rfl rfl rfl rfl rfl rfl rfl rfl rfl rfl rfl rfl rfl rfl hIY), (IW.of rfl rfl rfl rfl rfl rfl rfl rfl rfl rfl rfl rfl rfl rfl rfl rfl rfl rfl rfl rfl rfl rfl rfl hIW.up), (IT.of rfl rfl rfl rfl rfl rfl rfl rfl rfl rfl rfl rfl hIT), (IF.of rfl rfl rfl rfl rfl rfl rfl rfl rfl rfl hIF), (IL.of rfl rfl rfl rfl rfl rfl rfl rfl rfl rfl hIL), (IS.of rfl rfl rfl rfl rfl rfl rfl rfl rfl rfl rfl hIS)⟩
    exact ⟨hIZ.1, rfl⟩
  simp only [w_X11_put, w_X11_sheetAt, w_X12_isSheet, wi_eq, wm_eq, forall_eq, true_implies, false_implies, implies_true, not_true_eq_false, not_false_eq_true, not_true, not_false_iff, and_true, true_and, and_false, false_and, true_or, or_true, i1n0, i0e0, so_n, so_s, no_s]
  by_cases h1 : wi x1 0 3
  case neg => simp [w_X12_put, w_X12_isSheet, wm_eq, h1, z1]
  obtain ⟨j, hj, rfl, hv, hc⟩ := in4 h1
  simp only [h1, hv, hc, hj, true_implies, false_implies, implies_true, not_true_eq_false, not_false_eq_true, not_true, not_false_iff, and_true, true_and, and_false, false_and, true_or, or_true, i1n0, i0e0]
  have z42 : ¬ 42 + j = 0 := by omega
  have z46 : ¬ 46 + j = 0 := by omega
  have q42 : (setI s 0 0 14 0).1 0 (42 + j) = s.1 0 (42 + j) := by simp [rdI, z42]
  refine fo_eq hj (hS j hj) q42 ?_
  rw [q42]
  simp only [w_X12_put, w_X12_isSheet, w_X12_put_93, w_X12_fails, wm_eq, forall_eq, h1, hv, hc, true_implies, false_implies, implies_true, not_true_eq_false, not_false_eq_true, not_true, not_false_iff, and_true, true_and, and_false, false_and, true_or, or_true, i1n0, i0e0]
  rcases (hS j hj).1 with ⟨a, b⟩ | ⟨a, b, c, d⟩
  · rw [show ft s j (s.1 0 (42 + j) 1) x2 1 = 1 from by simp [ft, b]]
    rw [nf_n (by decide)]
    have : ¬ (-10 : Int32) - 1 = 0 := by decide
    simp only [this, true_implies, false_implies, implies_true, not_true_eq_false, not_false_eq_true, not_true, not_false_iff, and_true, true_and, and_false, false_and, true_or, or_true, i1n0, i0e0]
    have b2 : (setI (setI (setI s 0 0 14 0) 0 0 14 1) 6 0 0 0).1 5 2 j = (-9) := b
    simp only [b2, true_implies, false_implies, implies_true, not_true_eq_false, not_false_eq_true, not_true, not_false_iff, and_true, true_and, and_false, false_and, true_or, or_true, i1n0, i0e0]
    exact z0 _ _
  · obtain ⟨n1, n2⟩ := l9 b
    have hf := ft_1 (i := x2) (hS j hj) a.symm n1
    by_cases hw : wi x2 0 (s.1 5 3 j - 1)
    · obtain ⟨f1, x, rfl, hx⟩ := hf.1 hw
      rw [f1, nf_0]
      have hx2 : wi (nI x) 0 59 := wi_nI (M := 59) (by omega) (by decide)
      have hx3 : vp_in (nI x) 60 := vp_in_nI (by omega) (by decide)
      have hx4 : vp_in (nI (60 * j + x)) 240 := vp_in_nI (by omega) (by decide)
      have key : ∀ (r v : Int32), P r r (setI (setI (setI (setI (setI s 0 0 14 0) 0 0 14 0) 0 (46 + j) x v) 6 0 0 0) 5 4 (60 * j + x) v) := by
        intro r v
        have z46 : ¬ 0 = 46 + j := by omega
        refine hP _ _ (hI.sh ?_ ?_ ?_ rfl rfl rfl ?_ rfl ?_ ?_)
        · intro n h1 h2; simp [rdI, show ¬ n = 46 + j by omega, show ¬ n = 0 by omega]
        · intro i h; simp [rdI, rdU, z46, show ¬ i = 14 by omega]
        · intro i h; simp [rdI, rdU, show ¬ i = 0 by omega]
        · intro n h; simp [rdI, show ¬ n = 4 by omega]
        · simp [rdI, rdU, z46]
        · refine is_put hj hx hS ?_ rfl rfl ?_ rfl
          · intro k hk; simp [rdI, show ¬ 42 + k = 0 by omega, show ¬ 42 + k = 46 + j by omega]
          · intro k hk
            by_cases e : k = j
            · subst e; simp [rdI]
            · simp [rdI, e]
      have q42b : (setI (setI s 0 0 14 0) 0 0 14 0).1 0 (42 + j) 1 = s.1 5 2 j := by simp [rdI, z42, a]
      simp only [w_X7_write, w_X7_cutToLane, wi_eq, forall_eq, hx2, hx3, hj, true_implies, false_implies, implies_true, not_true_eq_false, not_false_eq_true, not_true, not_false_iff, and_true, true_and, and_false, false_and, true_or, or_true, i1n0, i0e0, nI_clamp (show x < 2 ^ 31 by omega), q42b]
      have m2 : ∀ v, (setI (setI (setI (setI s 0 0 14 0) 0 0 14 0) 0 (46 + j) x v) 6 0 0 0).1 5 2 j = s.1 5 2 j := fun _ => rfl
      have m3 : ∀ v, (setI (setI (setI (setI s 0 0 14 0) 0 0 14 0) 0 (46 + j) x v) 6 0 0 0).1 5 3 j = s.1 5 3 j := fun _ => rfl
      simp only [m2, m3, n1, hw, true_implies, false_implies, implies_true, not_true_eq_false, not_false_eq_true, not_true, not_false_iff, and_true, true_and, and_false, false_and, true_or, or_true, i1n0, i0e0, show (60 : Int32) = nI 60 from rfl, pk_mul, nI_add, nI_clamp (show 60 * j + x < 2 ^ 31 by omega), hx4]
      by_cases l0 : s.1 5 2 j = 0
      · simp only [l0, true_implies, false_implies, implies_true, not_true_eq_false, not_false_eq_true, not_true, not_false_iff, and_true, true_and, and_false, false_and, true_or, or_true, i1n0, i0e0]
        exact key _ _
      · by_cases l1 : s.1 5 2 j = 1
        · simp only [l1, l0, true_implies, false_implies, implies_true, not_true_eq_false, not_false_eq_true, not_true, not_false_iff, and_true, true_and, and_false, false_and, true_or, or_true, i1n0, i0e0]
          exact key _ _
        · simp only [l1, l0, true_implies, false_implies, implies_true, not_true_eq_false, not_false_eq_true, not_true, not_false_iff, and_true, true_and, and_false, false_and, true_or, or_true, i1n0, i0e0]
          exact key _ _
    · rw [hf.2 hw, nf_n (by decide)]
      have : ¬ (-10 : Int32) - 3 = 0 := by decide
      simp only [this, true_implies, false_implies, implies_true, not_true_eq_false, not_false_eq_true, not_true, not_false_iff, and_true, true_and, and_false, false_and, true_or, or_true, i1n0, i0e0]
      have m2 : (setI (setI (setI s 0 0 14 0) 0 0 14 3) 6 0 0 0).1 5 2 j = s.1 5 2 j := rfl
      have m3 : (setI (setI (setI s 0 0 14 0) 0 0 14 3) 6 0 0 0).1 5 3 j = s.1 5 3 j := rfl
      simp only [m2, m3, n1, hw, true_implies, false_implies, implies_true, not_true_eq_false, not_false_eq_true, not_true, not_false_iff, and_true, true_and, and_false, false_and, true_or, or_true, i1n0, i0e0]
      exact z0 _ _
set_option maxHeartbeats 1000000 in
theorem cs_cell {N k : Nat} {s : Sx} (hN : 20000 ≤ N) (hk : k ≤ 600) (hI : Inv k s) (x1 : Int32) (x2 : Int32) (x3 : Int32) (P : Int64 → Int64 → Sx → Prop) (hP : ∀ r s', Inv (k + 1) s' → P r r s') : w_X11_cell N x1 x2 x3 s (fun r s1 => w_X12_cell N x1 x2 x3 s1 (fun r2 s2 => P r r2 s2)) := by
  have hI2 := hI.up
  obtain ⟨hIC, hIM, hIP, hIZ, hIR, hIY, hIW, hIT, hIF, hIL, hIS⟩ := id hI
  have hS := IS_iff.mp hIS
  have z0 : ∀ (r : Int64) (f : Int32), P r r (setI (setI (setI (setI s 0 0 14 0) 0 0 14 f) 6 0 0 0) 6 0 0 f) := by
    intro r f
    refine hP _ _ ⟨(IC.of rfl rfl rfl rfl rfl rfl rfl rfl rfl rfl hIC), (IM.of rfl rfl hIM), (IP.of rfl rfl rfl rfl rfl rfl rfl rfl rfl rfl hIP), ?_, (IR.of rfl rfl rfl rfl rfl rfl rfl rfl rfl rfl rfl rfl rfl rfl hIR), (IY.of rfl rfl rfl rfl rfl rfl rfl rfl rfl rfl rfl rfl rfl rfl hIY), (IW.of rfl rfl rfl rfl rfl rfl rfl rfl rfl rfl rfl rfl rfl rfl rfl rfl rfl rfl rfl rfl rfl rfl rfl hIW.up), (IT.of rfl rfl rfl rfl rfl rfl rfl rfl rfl rfl rfl rfl hIT), (IF.of rfl rfl rfl rfl rfl rfl rfl rfl rfl rfl hIF), (IL.of rfl rfl rfl rfl rfl rfl rfl rfl rfl rfl hIL), (IS.of rfl rfl rfl rfl rfl rfl rfl rfl rfl rfl rfl hIS)⟩
    exact ⟨hIZ.1, rfl⟩
  have z2 : ∀ (r : Int64), P r r (setI (setI (setI s 0 0 14 0) 0 0 14 0) 6 0 0 0) := by
    intro r
    refine hP _ _ ⟨(IC.of rfl rfl rfl rfl rfl rfl rfl rfl rfl rfl hIC), (IM.of rfl rfl hIM), (IP.of rfl rfl rfl rfl rfl rfl rfl rfl rfl rfl hIP), ?_, (IR.of rfl rfl rfl rfl rfl rfl rfl rfl rfl rfl rfl rfl rfl rfl hIR), (IY.of rfl rfl rfl rfl rfl rfl rfl rfl rfl rfl rfl rfl rfl rfl hIY), (IW.of rfl rfl rfl rfl rfl rfl rfl rfl rfl rfl rfl rfl rfl rfl rfl rfl rfl rfl rfl rfl rfl rfl rfl hIW.up), (IT.of rfl rfl rfl rfl rfl rfl rfl rfl rfl rfl rfl rfl hIT), (IF.of rfl rfl rfl rfl rfl rfl rfl rfl rfl rfl hIF), (IL.of rfl rfl rfl rfl rfl rfl rfl rfl rfl rfl hIL), (IS.of rfl rfl rfl rfl rfl rfl rfl rfl rfl rfl rfl hIS)⟩
    exact ⟨hIZ.1, rfl⟩
  have z1 : ∀ r : Int64, P r r (setI (setI s 0 0 14 0) 6 0 0 0) := by
    intro r
    refine hP _ _ ⟨(IC.of rfl rfl rfl rfl rfl rfl rfl rfl rfl rfl hIC), (IM.of rfl rfl hIM), (IP.of rfl rfl rfl rfl rfl rfl rfl rfl rfl rfl hIP), ?_, (IR.of rfl rfl rfl rfl rfl rfl rfl rfl rfl rfl rfl rfl rfl rfl hIR), (IY.of rfl rfl rfl rfl rfl rfl rfl rfl rfl rfl rfl rfl rfl rfl hIY), (IW.of rfl rfl rfl rfl rfl rfl rfl rfl rfl rfl rfl rfl rfl rfl rfl rfl rfl rfl rfl rfl rfl rfl rfl hIW.up), (IT.of rfl rfl rfl rfl rfl rfl rfl rfl rfl rfl rfl rfl hIT), (IF.of rfl rfl rfl rfl rfl rfl rfl rfl rfl rfl hIF), (IL.of rfl rfl rfl rfl rfl rfl rfl rfl rfl rfl hIL), (IS.of rfl rfl rfl rfl rfl rfl rfl rfl rfl rfl rfl hIS)⟩
    exact ⟨hIZ.1, rfl⟩
  simp only [w_X11_cell, w_X11_sheetAt, w_X11_isLane, wi_eq, wm_eq, forall_eq, true_implies, false_implies, implies_true, not_true_eq_false, not_false_eq_true, not_true, not_false_iff, and_true, true_and, and_false, false_and, true_or, or_true, i1n0, i0e0, so_n, so_s, no_s]
  by_cases h1 : wi x1 0 3
  case neg => simp [w_X12_cell, w_X12_isSheet, wm_eq, h1, z1]
  obtain ⟨j, hj, rfl, hv, hc⟩ := in4 h1
  by_cases h2 : wi x3 0 2
  case neg => simp [w_X12_cell, w_X12_isSheet, w_X12_isLane, wm_eq, h1, h2, hc, hj, hv, z1]
  simp only [h1, h2, hv, hc, hj, true_implies, false_implies, implies_true, not_true_eq_false, not_false_eq_true, not_true, not_false_iff, and_true, true_and, and_false, false_and, true_or, or_true, i1n0, i0e0]
  have z42 : ¬ 42 + j = 0 := by omega
  have z46 : ¬ 46 + j = 0 := by omega
  have q42 : (setI s 0 0 14 0).1 0 (42 + j) = s.1 0 (42 + j) := by simp [rdI, z42]
  refine fo_eq hj (hS j hj) q42 ?_
  have hm : ∀ (f : Int32), w_X12_cell N (nI j) x2 x3 (setI (setI s 0 0 14 0) 0 0 14 f) = w_X12_cell N (nI j) x2 x3 (setI (setI s 0 0 14 0) 0 0 14 f) := fun _ => rfl
  simp only [w_X12_cell, w_X12_isSheet, w_X12_isLane, w_X12_cell_50, w_X12_lostBeing, wm_eq, forall_eq, h1, h2, hv, hc, true_implies, false_implies, implies_true, not_true_eq_false, not_false_eq_true, not_true, not_false_iff, and_true, true_and, and_false, false_and, true_or, or_true, i1n0, i0e0]
  by_cases b : s.1 5 2 j = (-9)
  · rw [show ft s j x3 x2 1 = 1 from by simp [ft, b]]
    rw [nf_n (by decide)]
    have : ¬ (-10 : Int32) - 1 = 0 := by decide
    simp only [this, true_implies, false_implies, implies_true, not_true_eq_false, not_false_eq_true, not_true, not_false_iff, and_true, true_and, and_false, false_and, true_or, or_true, i1n0, i0e0]
    have b2 : (setI (setI (setI s 0 0 14 0) 0 0 14 1) 6 0 0 0).1 5 2 j = (-9) := b
    simp only [b2, true_implies, false_implies, implies_true, not_true_eq_false, not_false_eq_true, not_true, not_false_iff, and_true, true_and, and_false, false_and, true_or, or_true, i1n0, i0e0]
    exact z0 _ _
  · by_cases l : s.1 5 2 j = x3
    case neg =>
      rw [show ft s j x3 x2 1 = 2 from by simp [ft, b, l]]
      rw [nf_n (by decide)]
      have : ¬ (-10 : Int32) - 2 = 0 := by decide
      simp only [this, true_implies, false_implies, implies_true, not_true_eq_false, not_false_eq_true, not_true, not_false_iff, and_true, true_and, and_false, false_and, true_or, or_true, i1n0, i0e0]
      have m2 : (setI (setI (setI s 0 0 14 0) 0 0 14 2) 6 0 0 0).1 5 2 j = s.1 5 2 j := rfl
      simp only [m2, b, l, true_implies, false_implies, implies_true, not_true_eq_false, not_false_eq_true, not_true, not_false_iff, and_true, true_and, and_false, false_and, true_or, or_true, i1n0, i0e0]
      exact z0 _ _
    have hf := ft_1 (i := x2) (hS j hj) l b
    have b2 : ¬ x3 = (-9) := fun e => b (l.trans e)
    by_cases hw : wi x2 0 (s.1 5 3 j - 1)
    · obtain ⟨f1, x, rfl, hx⟩ := hf.1 hw
      rw [f1, nf_0]
      have hx2 : wi (nI x) 0 59 := wi_nI (M := 59) (by omega) (by decide)
      have hx3 : vp_in (nI x) 60 := vp_in_nI (by omega) (by decide)
      have hx4 : vp_in (nI (60 * j + x)) 240 := vp_in_nI (by omega) (by decide)
      simp only [w_X7_read, wi_eq, forall_eq, hx2, hx3, hj, true_implies, false_implies, implies_true, not_true_eq_false, not_false_eq_true, not_true, not_false_iff, and_true, true_and, and_false, false_and, true_or, or_true, i1n0, i0e0, nI_clamp (show x < 2 ^ 31 by omega)]
      have m2 : (setI (setI (setI s 0 0 14 0) 0 0 14 0) 6 0 0 0).1 5 2 j = s.1 5 2 j := rfl
      have m3 : (setI (setI (setI s 0 0 14 0) 0 0 14 0) 6 0 0 0).1 5 3 j = s.1 5 3 j := rfl
      have m4 : (setI (setI (setI s 0 0 14 0) 0 0 14 0) 6 0 0 0).1 5 4 = s.1 5 4 := rfl
      have m5 : (setI (setI s 0 0 14 0) 0 0 14 0).1 0 (46 + j) = s.1 0 (46 + j) := by simp [rdI, z46]
      simp only [m2, m3, m4, m5, b, b2, l, hw, true_implies, false_implies, implies_true, not_true_eq_false, not_false_eq_true, not_true, not_false_iff, and_true, true_and, and_false, false_and, true_or, or_true, i1n0, i0e0, show (60 : Int32) = nI 60 from rfl, pk_mul, nI_add, nI_clamp (show 60 * j + x < 2 ^ 31 by omega), hx4, (hS j hj).2 x hx]
      exact z2 _
    · rw [hf.2 hw, nf_n (by decide)]
      have : ¬ (-10 : Int32) - 3 = 0 := by decide
      simp only [this, true_implies, false_implies, implies_true, not_true_eq_false, not_false_eq_true, not_true, not_false_iff, and_true, true_and, and_false, false_and, true_or, or_true, i1n0, i0e0]
      have m2 : (setI (setI (setI s 0 0 14 0) 0 0 14 3) 6 0 0 0).1 5 2 j = s.1 5 2 j := rfl
      have m3 : (setI (setI (setI s 0 0 14 0) 0 0 14 3) 6 0 0 0).1 5 3 j = s.1 5 3 j := rfl
      simp only [m2, m3, b, b2, l, hw, true_implies, false_implies, implies_true, not_true_eq_false, not_false_eq_true, not_true, not_false_iff, and_true, true_and, and_false, false_and, true_or, or_true, i1n0, i0e0]
      exact z0 _ _
