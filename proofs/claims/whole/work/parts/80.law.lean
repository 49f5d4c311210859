/-! the law's cases -/
def HC : Prop := ∀ {N k : Nat} {s : Sx} (hN : 20000 ≤ N) (hk : k ≤ 600) (hI : Inv k s) (x1 : Int32) (P : Int32 → Int32 → Sx → Prop) (hP : ∀ r s', Inv (k + 1) s' → P r r s'), w_X11_call N x1 s (fun r s1 => w_X12_call N x1 s1 (fun r2 s2 => P r r2 s2))
theorem lc_232 {N L k i : Nat} {xs : Nat → Int32} {s : Sx} {K : Sx → Int32 → Prop} (hN : 20000 ≤ N) (hk : k ≤ 600) (hI : Inv k s) (hi : i + 5 < L) (hL : L ≤ 3072) (hK : ∀ s', Inv (k + 1) s' → K s' (nI (i + 6))) : w_L_law_232 N L xs K s (nI i) := by
  have e : ∀ j, nI i + nI j = nI (i + j) := fun j => nI_add i j
  have v1 : vp_in (nI (i + 1)) L := vp_in_nI (by omega) (by omega)
  have v2 : vp_in (nI (i + 2)) L := vp_in_nI (by omega) (by omega)
  have v3 : vp_in (nI (i + 3)) L := vp_in_nI (by omega) (by omega)
  simp only [w_L_law_232, show (1 : Int32) = nI 1 from rfl, show (2 : Int32) = nI 2 from rfl, show (3 : Int32) = nI 3 from rfl, show (4 : Int32) = nI 4 from rfl, show (5 : Int32) = nI 5 from rfl, show (6 : Int32) = nI 6 from rfl, e, v1, v2, v3, true_implies, false_implies, implies_true, not_true_eq_false, not_false_eq_true, not_true, not_false_iff, and_true, true_and, and_false, false_and, true_or, or_true, i1n0, i0e0]
  exact cs_camp hN hk hI _ _ _ (fun r r2 s2 => (r = r2 → ∀ x : Int32, x = nI (i + 6) → K s2 x) ∧ (¬ r = r2 → (0 : Int32) = nI 1)) (fun r s' h => ⟨fun _ x hx => by rw [hx]; exact hK s' h, fun q => absurd (rfl) q⟩)
theorem lc_275 {N L k i : Nat} {xs : Nat → Int32} {s : Sx} {K : Sx → Int32 → Prop} (hN : 20000 ≤ N) (hk : k ≤ 600) (hI : Inv k s) (hi : i + 5 < L) (hL : L ≤ 3072) (hK : ∀ s', Inv (k + 1) s' → K s' (nI (i + 6))) : w_L_law_275 N L xs K s (nI i) := by
  have e : ∀ j, nI i + nI j = nI (i + j) := fun j => nI_add i j
  simp only [w_L_law_275, show (1 : Int32) = nI 1 from rfl, show (2 : Int32) = nI 2 from rfl, show (3 : Int32) = nI 3 from rfl, show (4 : Int32) = nI 4 from rfl, show (5 : Int32) = nI 5 from rfl, show (6 : Int32) = nI 6 from rfl, e, true_implies, false_implies, implies_true, not_true_eq_false, not_false_eq_true, not_true, not_false_iff, and_true, true_and, and_false, false_and, true_or, or_true, i1n0, i0e0]
  exact cs_man hN hk hI (fun r r2 s2 => (r = r2 → ∀ x : Int32, x = nI (i + 6) → K s2 x) ∧ (¬ r = r2 → (0 : Int32) = nI 1)) (fun r s' h => ⟨fun _ x hx => by rw [hx]; exact hK s' h, fun q => absurd (rfl) q⟩)
theorem lc_288 {N L k i : Nat} {xs : Nat → Int32} {s : Sx} {K : Sx → Int32 → Prop} (hN : 20000 ≤ N) (hk : k ≤ 600) (hI : Inv k s) (hi : i + 5 < L) (hL : L ≤ 3072) (hK : ∀ s', Inv (k + 1) s' → K s' (nI (i + 6))) : w_L_law_288 N L xs K s (nI i) := by
  have e : ∀ j, nI i + nI j = nI (i + j) := fun j => nI_add i j
  have v1 : vp_in (nI (i + 1)) L := vp_in_nI (by omega) (by omega)
  have v2 : vp_in (nI (i + 2)) L := vp_in_nI (by omega) (by omega)
  have v3 : vp_in (nI (i + 3)) L := vp_in_nI (by omega) (by omega)
  have v4 : vp_in (nI (i + 4)) L := vp_in_nI (by omega) (by omega)
  have v5 : vp_in (nI (i + 5)) L := vp_in_nI (by omega) (by omega)
  simp only [w_L_law_288, show (1 : Int32) = nI 1 from rfl, show (2 : Int32) = nI 2 from rfl, show (3 : Int32) = nI 3 from rfl, show (4 : Int32) = nI 4 from rfl, show (5 : Int32) = nI 5 from rfl, show (6 : Int32) = nI 6 from rfl, e, v1, v2, v3, v4, v5, true_implies, false_implies, implies_true, not_true_eq_false, not_false_eq_true, not_true, not_false_iff, and_true, true_and, and_false, false_and, true_or, or_true, i1n0, i0e0]
  exact cs_post hN hk hI _ _ _ _ _ (fun r r2 s2 => (r = r2 → ∀ x : Int32, x = nI (i + 6) → K s2 x) ∧ (¬ r = r2 → (0 : Int32) = nI 1)) (fun r s' h => ⟨fun _ x hx => by rw [hx]; exact hK s' h, fun q => absurd (rfl) q⟩)
theorem lc_351 {N L k i : Nat} {xs : Nat → Int32} {s : Sx} {K : Sx → Int32 → Prop} (hN : 20000 ≤ N) (hk : k ≤ 600) (hI : Inv k s) (hi : i + 5 < L) (hL : L ≤ 3072) (hK : ∀ s', Inv (k + 1) s' → K s' (nI (i + 6))) : w_L_law_351 N L xs K s (nI i) := by
  have e : ∀ j, nI i + nI j = nI (i + j) := fun j => nI_add i j
  have v1 : vp_in (nI (i + 1)) L := vp_in_nI (by omega) (by omega)
  have v2 : vp_in (nI (i + 2)) L := vp_in_nI (by omega) (by omega)
  simp only [w_L_law_351, show (1 : Int32) = nI 1 from rfl, show (2 : Int32) = nI 2 from rfl, show (3 : Int32) = nI 3 from rfl, show (4 : Int32) = nI 4 from rfl, show (5 : Int32) = nI 5 from rfl, show (6 : Int32) = nI 6 from rfl, e, v1, v2, true_implies, false_implies, implies_true, not_true_eq_false, not_false_eq_true, not_true, not_false_iff, and_true, true_and, and_false, false_and, true_or, or_true, i1n0, i0e0]
  exact cs_day hN hk hI _ _ (fun r r2 s2 => (r = r2 → ∀ x : Int32, x = nI (i + 6) → K s2 x) ∧ (¬ r = r2 → (0 : Int32) = nI 1)) (fun r s' h => ⟨fun _ x hx => by rw [hx]; exact hK s' h, fun q => absurd (rfl) q⟩)
theorem lc_384 {N L k i : Nat} {xs : Nat → Int32} {s : Sx} {K : Sx → Int32 → Prop} (hN : 20000 ≤ N) (hk : k ≤ 600) (hI : Inv k s) (hi : i + 5 < L) (hL : L ≤ 3072) (hK : ∀ s', Inv (k + 1) s' → K s' (nI (i + 6))) : w_L_law_384 N L xs K s (nI i) := by
  have e : ∀ j, nI i + nI j = nI (i + j) := fun j => nI_add i j
  have v1 : vp_in (nI (i + 1)) L := vp_in_nI (by omega) (by omega)
  have v2 : vp_in (nI (i + 2)) L := vp_in_nI (by omega) (by omega)
  simp only [w_L_law_384, show (1 : Int32) = nI 1 from rfl, show (2 : Int32) = nI 2 from rfl, show (3 : Int32) = nI 3 from rfl, show (4 : Int32) = nI 4 from rfl, show (5 : Int32) = nI 5 from rfl, show (6 : Int32) = nI 6 from rfl, e, v1, v2, true_implies, false_implies, implies_true, not_true_eq_false, not_false_eq_true, not_true, not_false_iff, and_true, true_and, and_false, false_and, true_or, or_true, i1n0, i0e0]
  exact cs_beds hN hk hI _ _ (fun r r2 s2 => (r = r2 → ∀ x : Int32, x = nI (i + 6) → K s2 x) ∧ (¬ r = r2 → (0 : Int32) = nI 1)) (fun r s' h => ⟨fun _ x hx => by rw [hx]; exact hK s' h, fun q => absurd (rfl) q⟩)
theorem lc_417 {N L k i : Nat} {xs : Nat → Int32} {s : Sx} {K : Sx → Int32 → Prop} (hN : 20000 ≤ N) (hk : k ≤ 600) (hI : Inv k s) (hi : i + 5 < L) (hL : L ≤ 3072) (hK : ∀ s', Inv (k + 1) s' → K s' (nI (i + 6))) : w_L_law_417 N L xs K s (nI i) := by
  have e : ∀ j, nI i + nI j = nI (i + j) := fun j => nI_add i j
  have v1 : vp_in (nI (i + 1)) L := vp_in_nI (by omega) (by omega)
  simp only [w_L_law_417, show (1 : Int32) = nI 1 from rfl, show (2 : Int32) = nI 2 from rfl, show (3 : Int32) = nI 3 from rfl, show (4 : Int32) = nI 4 from rfl, show (5 : Int32) = nI 5 from rfl, show (6 : Int32) = nI 6 from rfl, e, v1, true_implies, false_implies, implies_true, not_true_eq_false, not_false_eq_true, not_true, not_false_iff, and_true, true_and, and_false, false_and, true_or, or_true, i1n0, i0e0]
  exact cs_over hN hk hI _ (fun r r2 s2 => (r = r2 → ∀ x : Int32, x = nI (i + 6) → K s2 x) ∧ (¬ r = r2 → (0 : Int32) = nI 1)) (fun r s' h => ⟨fun _ x hx => by rw [hx]; exact hK s' h, fun q => absurd (rfl) q⟩)
theorem lc_440 {N L k i : Nat} {xs : Nat → Int32} {s : Sx} {K : Sx → Int32 → Prop} (hN : 20000 ≤ N) (hk : k ≤ 600) (hI : Inv k s) (hi : i + 5 < L) (hL : L ≤ 3072) (hK : ∀ s', Inv (k + 1) s' → K s' (nI (i + 6))) : w_L_law_440 N L xs K s (nI i) := by
  have e : ∀ j, nI i + nI j = nI (i + j) := fun j => nI_add i j
  have v1 : vp_in (nI (i + 1)) L := vp_in_nI (by omega) (by omega)
  have v2 : vp_in (nI (i + 2)) L := vp_in_nI (by omega) (by omega)
  have v3 : vp_in (nI (i + 3)) L := vp_in_nI (by omega) (by omega)
  have v4 : vp_in (nI (i + 4)) L := vp_in_nI (by omega) (by omega)
  have v5 : vp_in (nI (i + 5)) L := vp_in_nI (by omega) (by omega)
  simp only [w_L_law_440, show (1 : Int32) = nI 1 from rfl, show (2 : Int32) = nI 2 from rfl, show (3 : Int32) = nI 3 from rfl, show (4 : Int32) = nI 4 from rfl, show (5 : Int32) = nI 5 from rfl, show (6 : Int32) = nI 6 from rfl, e, v1, v2, v3, v4, v5, true_implies, false_implies, implies_true, not_true_eq_false, not_false_eq_true, not_true, not_false_iff, and_true, true_and, and_false, false_and, true_or, or_true, i1n0, i0e0]
  exact cs_order hN hk hI _ _ _ _ _ (fun r r2 s2 => (r = r2 → ∀ x : Int32, x = nI (i + 6) → K s2 x) ∧ (¬ r = r2 → (0 : Int32) = nI 1)) (fun r s' h => ⟨fun _ x hx => by rw [hx]; exact hK s' h, fun q => absurd (rfl) q⟩)
theorem lc_503 {N L k i : Nat} {xs : Nat → Int32} {s : Sx} {K : Sx → Int32 → Prop} (hN : 20000 ≤ N) (hk : k ≤ 600) (hI : Inv k s) (hi : i + 5 < L) (hL : L ≤ 3072) (hK : ∀ s', Inv (k + 1) s' → K s' (nI (i + 6))) : w_L_law_503 N L xs K s (nI i) := by
  have e : ∀ j, nI i + nI j = nI (i + j) := fun j => nI_add i j
  have v1 : vp_in (nI (i + 1)) L := vp_in_nI (by omega) (by omega)
  have v2 : vp_in (nI (i + 2)) L := vp_in_nI (by omega) (by omega)
  simp only [w_L_law_503, show (1 : Int32) = nI 1 from rfl, show (2 : Int32) = nI 2 from rfl, show (3 : Int32) = nI 3 from rfl, show (4 : Int32) = nI 4 from rfl, show (5 : Int32) = nI 5 from rfl, show (6 : Int32) = nI 6 from rfl, e, v1, v2, true_implies, false_implies, implies_true, not_true_eq_false, not_false_eq_true, not_true, not_false_iff, and_true, true_and, and_false, false_and, true_or, or_true, i1n0, i0e0]
  exact cs_ofOrder hN hk hI _ _ (fun r r2 s2 => (r = r2 → ∀ x : Int32, x = nI (i + 6) → K s2 x) ∧ (¬ r = r2 → (0 : Int32) = nI 1)) (fun r s' h => ⟨fun _ x hx => by rw [hx]; exact hK s' h, fun q => absurd (rfl) q⟩)
theorem lc_536 {N L k i : Nat} {xs : Nat → Int32} {s : Sx} {K : Sx → Int32 → Prop} (hN : 20000 ≤ N) (hk : k ≤ 600) (hI : Inv k s) (hi : i + 5 < L) (hL : L ≤ 3072) (hK : ∀ s', Inv (k + 1) s' → K s' (nI (i + 6))) : w_L_law_536 N L xs K s (nI i) := by
  have e : ∀ j, nI i + nI j = nI (i + j) := fun j => nI_add i j
  have v1 : vp_in (nI (i + 1)) L := vp_in_nI (by omega) (by omega)
  have v2 : vp_in (nI (i + 2)) L := vp_in_nI (by omega) (by omega)
  simp only [w_L_law_536, show (1 : Int32) = nI 1 from rfl, show (2 : Int32) = nI 2 from rfl, show (3 : Int32) = nI 3 from rfl, show (4 : Int32) = nI 4 from rfl, show (5 : Int32) = nI 5 from rfl, show (6 : Int32) = nI 6 from rfl, e, v1, v2, true_implies, false_implies, implies_true, not_true_eq_false, not_false_eq_true, not_true, not_false_iff, and_true, true_and, and_false, false_and, true_or, or_true, i1n0, i0e0]
  exact cs_delay hN hk hI _ _ (fun r r2 s2 => (r = r2 → ∀ x : Int32, x = nI (i + 6) → K s2 x) ∧ (¬ r = r2 → (0 : Int32) = nI 1)) (fun r s' h => ⟨fun _ x hx => by rw [hx]; exact hK s' h, fun q => absurd (rfl) q⟩)
theorem lc_569 {N L k i : Nat} {xs : Nat → Int32} {s : Sx} {K : Sx → Int32 → Prop} (hN : 20000 ≤ N) (hk : k ≤ 600) (hI : Inv k s) (hi : i + 5 < L) (hL : L ≤ 3072) (hK : ∀ s', Inv (k + 1) s' → K s' (nI (i + 6))) : w_L_law_569 N L xs K s (nI i) := by
  have e : ∀ j, nI i + nI j = nI (i + j) := fun j => nI_add i j
  have v1 : vp_in (nI (i + 1)) L := vp_in_nI (by omega) (by omega)
  have v2 : vp_in (nI (i + 2)) L := vp_in_nI (by omega) (by omega)
  have v3 : vp_in (nI (i + 3)) L := vp_in_nI (by omega) (by omega)
  have v4 : vp_in (nI (i + 4)) L := vp_in_nI (by omega) (by omega)
  simp only [w_L_law_569, show (1 : Int32) = nI 1 from rfl, show (2 : Int32) = nI 2 from rfl, show (3 : Int32) = nI 3 from rfl, show (4 : Int32) = nI 4 from rfl, show (5 : Int32) = nI 5 from rfl, show (6 : Int32) = nI 6 from rfl, e, v1, v2, v3, v4, true_implies, false_implies, implies_true, not_true_eq_false, not_false_eq_true, not_true, not_false_iff, and_true, true_and, and_false, false_and, true_or, or_true, i1n0, i0e0]
  exact cs_word hN hk hI _ _ _ _ (fun r r2 s2 => (r = r2 → ∀ x : Int32, x = nI (i + 6) → K s2 x) ∧ (¬ r = r2 → (0 : Int32) = nI 1)) (fun r s' h => ⟨fun _ x hx => by rw [hx]; exact hK s' h, fun q => absurd (rfl) q⟩)
theorem lc_622 {N L k i : Nat} {xs : Nat → Int32} {s : Sx} {K : Sx → Int32 → Prop} (hN : 20000 ≤ N) (hk : k ≤ 600) (hI : Inv k s) (hi : i + 5 < L) (hL : L ≤ 3072) (hK : ∀ s', Inv (k + 1) s' → K s' (nI (i + 6))) : w_L_law_622 N L xs K s (nI i) := by
  have e : ∀ j, nI i + nI j = nI (i + j) := fun j => nI_add i j
  have v1 : vp_in (nI (i + 1)) L := vp_in_nI (by omega) (by omega)
  have v2 : vp_in (nI (i + 2)) L := vp_in_nI (by omega) (by omega)
  have v3 : vp_in (nI (i + 3)) L := vp_in_nI (by omega) (by omega)
  have v4 : vp_in (nI (i + 4)) L := vp_in_nI (by omega) (by omega)
  simp only [w_L_law_622, show (1 : Int32) = nI 1 from rfl, show (2 : Int32) = nI 2 from rfl, show (3 : Int32) = nI 3 from rfl, show (4 : Int32) = nI 4 from rfl, show (5 : Int32) = nI 5 from rfl, show (6 : Int32) = nI 6 from rfl, e, v1, v2, v3, v4, true_implies, false_implies, implies_true, not_true_eq_false, not_false_eq_true, not_true, not_false_iff, and_true, true_and, and_false, false_and, true_or, or_true, i1n0, i0e0]
  exact cs_why hN hk hI _ _ _ _ (fun r r2 s2 => (r = r2 → ∀ x : Int32, x = nI (i + 6) → K s2 x) ∧ (¬ r = r2 → (0 : Int32) = nI 1)) (fun r s' h => ⟨fun _ x hx => by rw [hx]; exact hK s' h, fun q => absurd (rfl) q⟩)
theorem lc_675 {N L k i : Nat} {xs : Nat → Int32} {s : Sx} {K : Sx → Int32 → Prop} (hN : 20000 ≤ N) (hk : k ≤ 600) (hI : Inv k s) (hi : i + 5 < L) (hL : L ≤ 3072) (hK : ∀ s', Inv (k + 1) s' → K s' (nI (i + 6))) : w_L_law_675 N L xs K s (nI i) := by
  have e : ∀ j, nI i + nI j = nI (i + j) := fun j => nI_add i j
  have v1 : vp_in (nI (i + 1)) L := vp_in_nI (by omega) (by omega)
  have v2 : vp_in (nI (i + 2)) L := vp_in_nI (by omega) (by omega)
  simp only [w_L_law_675, show (1 : Int32) = nI 1 from rfl, show (2 : Int32) = nI 2 from rfl, show (3 : Int32) = nI 3 from rfl, show (4 : Int32) = nI 4 from rfl, show (5 : Int32) = nI 5 from rfl, show (6 : Int32) = nI 6 from rfl, e, v1, v2, true_implies, false_implies, implies_true, not_true_eq_false, not_false_eq_true, not_true, not_false_iff, and_true, true_and, and_false, false_and, true_or, or_true, i1n0, i0e0]
  exact cs_quarrel hN hk hI _ _ (fun r r2 s2 => (r = r2 → ∀ x : Int32, x = nI (i + 6) → K s2 x) ∧ (¬ r = r2 → (0 : Int32) = nI 1)) (fun r s' h => ⟨fun _ x hx => by rw [hx]; exact hK s' h, fun q => absurd (rfl) q⟩)
theorem lc_708 {N L k i : Nat} {xs : Nat → Int32} {s : Sx} {K : Sx → Int32 → Prop} (hN : 20000 ≤ N) (hk : k ≤ 600) (hI : Inv k s) (hi : i + 5 < L) (hL : L ≤ 3072) (hK : ∀ s', Inv (k + 1) s' → K s' (nI (i + 6))) : w_L_law_708 N L xs K s (nI i) := by
  have e : ∀ j, nI i + nI j = nI (i + j) := fun j => nI_add i j
  have v1 : vp_in (nI (i + 1)) L := vp_in_nI (by omega) (by omega)
  have v2 : vp_in (nI (i + 2)) L := vp_in_nI (by omega) (by omega)
  simp only [w_L_law_708, show (1 : Int32) = nI 1 from rfl, show (2 : Int32) = nI 2 from rfl, show (3 : Int32) = nI 3 from rfl, show (4 : Int32) = nI 4 from rfl, show (5 : Int32) = nI 5 from rfl, show (6 : Int32) = nI 6 from rfl, e, v1, v2, true_implies, false_implies, implies_true, not_true_eq_false, not_false_eq_true, not_true, not_false_iff, and_true, true_and, and_false, false_and, true_or, or_true, i1n0, i0e0]
  exact cs_rate hN hk hI _ _ (fun r r2 s2 => (r = r2 → ∀ x : Int32, x = nI (i + 6) → K s2 x) ∧ (¬ r = r2 → (0 : Int32) = nI 1)) (fun r s' h => ⟨fun _ x hx => by rw [hx]; exact hK s' h, fun q => absurd (rfl) q⟩)
theorem lc_741 {N L k i : Nat} {xs : Nat → Int32} {s : Sx} {K : Sx → Int32 → Prop} (hN : 20000 ≤ N) (hk : k ≤ 600) (hI : Inv k s) (hi : i + 5 < L) (hL : L ≤ 3072) (hK : ∀ s', Inv (k + 1) s' → K s' (nI (i + 6))) : w_L_law_741 N L xs K s (nI i) := by
  have e : ∀ j, nI i + nI j = nI (i + j) := fun j => nI_add i j
  have v1 : vp_in (nI (i + 1)) L := vp_in_nI (by omega) (by omega)
  have v2 : vp_in (nI (i + 2)) L := vp_in_nI (by omega) (by omega)
  simp only [w_L_law_741, show (1 : Int32) = nI 1 from rfl, show (2 : Int32) = nI 2 from rfl, show (3 : Int32) = nI 3 from rfl, show (4 : Int32) = nI 4 from rfl, show (5 : Int32) = nI 5 from rfl, show (6 : Int32) = nI 6 from rfl, e, v1, v2, true_implies, false_implies, implies_true, not_true_eq_false, not_false_eq_true, not_true, not_false_iff, and_true, true_and, and_false, false_and, true_or, or_true, i1n0, i0e0]
  exact cs_home hN hk hI _ _ (fun r r2 s2 => (r = r2 → ∀ x : Int32, x = nI (i + 6) → K s2 x) ∧ (¬ r = r2 → (0 : Int32) = nI 1)) (fun r s' h => ⟨fun _ x hx => by rw [hx]; exact hK s' h, fun q => absurd (rfl) q⟩)
theorem lc_774 {N L k i : Nat} {xs : Nat → Int32} {s : Sx} {K : Sx → Int32 → Prop} (hN : 20000 ≤ N) (hk : k ≤ 600) (hI : Inv k s) (hi : i + 5 < L) (hL : L ≤ 3072) (hK : ∀ s', Inv (k + 1) s' → K s' (nI (i + 6))) : w_L_law_774 N L xs K s (nI i) := by
  have e : ∀ j, nI i + nI j = nI (i + j) := fun j => nI_add i j
  have v1 : vp_in (nI (i + 1)) L := vp_in_nI (by omega) (by omega)
  have v2 : vp_in (nI (i + 2)) L := vp_in_nI (by omega) (by omega)
  have v3 : vp_in (nI (i + 3)) L := vp_in_nI (by omega) (by omega)
  simp only [w_L_law_774, show (1 : Int32) = nI 1 from rfl, show (2 : Int32) = nI 2 from rfl, show (3 : Int32) = nI 3 from rfl, show (4 : Int32) = nI 4 from rfl, show (5 : Int32) = nI 5 from rfl, show (6 : Int32) = nI 6 from rfl, e, v1, v2, v3, true_implies, false_implies, implies_true, not_true_eq_false, not_false_eq_true, not_true, not_false_iff, and_true, true_and, and_false, false_and, true_or, or_true, i1n0, i0e0]
  exact cs_fine hN hk hI _ _ _ (fun r r2 s2 => (r = r2 → ∀ x : Int32, x = nI (i + 6) → K s2 x) ∧ (¬ r = r2 → (0 : Int32) = nI 1)) (fun r s' h => ⟨fun _ x hx => by rw [hx]; exact hK s' h, fun q => absurd (rfl) q⟩)
theorem lc_817 {N L k i : Nat} {xs : Nat → Int32} {s : Sx} {K : Sx → Int32 → Prop} (hN : 20000 ≤ N) (hk : k ≤ 600) (hI : Inv k s) (hi : i + 5 < L) (hL : L ≤ 3072) (hK : ∀ s', Inv (k + 1) s' → K s' (nI (i + 6))) : w_L_law_817 N L xs K s (nI i) := by
  have e : ∀ j, nI i + nI j = nI (i + j) := fun j => nI_add i j
  have v1 : vp_in (nI (i + 1)) L := vp_in_nI (by omega) (by omega)
  have v2 : vp_in (nI (i + 2)) L := vp_in_nI (by omega) (by omega)
  have v3 : vp_in (nI (i + 3)) L := vp_in_nI (by omega) (by omega)
  have v4 : vp_in (nI (i + 4)) L := vp_in_nI (by omega) (by omega)
  simp only [w_L_law_817, show (1 : Int32) = nI 1 from rfl, show (2 : Int32) = nI 2 from rfl, show (3 : Int32) = nI 3 from rfl, show (4 : Int32) = nI 4 from rfl, show (5 : Int32) = nI 5 from rfl, show (6 : Int32) = nI 6 from rfl, e, v1, v2, v3, v4, true_implies, false_implies, implies_true, not_true_eq_false, not_false_eq_true, not_true, not_false_iff, and_true, true_and, and_false, false_and, true_or, or_true, i1n0, i0e0]
  exact cs_pay hN hk hI _ _ _ _ (fun r r2 s2 => (r = r2 → ∀ x : Int32, x = nI (i + 6) → K s2 x) ∧ (¬ r = r2 → (0 : Int32) = nI 1)) (fun r s' h => ⟨fun _ x hx => by rw [hx]; exact hK s' h, fun q => absurd (rfl) q⟩)
theorem lc_870 {N L k i : Nat} {xs : Nat → Int32} {s : Sx} {K : Sx → Int32 → Prop} (hN : 20000 ≤ N) (hk : k ≤ 600) (hI : Inv k s) (hi : i + 5 < L) (hL : L ≤ 3072) (hK : ∀ s', Inv (k + 1) s' → K s' (nI (i + 6))) : w_L_law_870 N L xs K s (nI i) := by
  have e : ∀ j, nI i + nI j = nI (i + j) := fun j => nI_add i j
  have v1 : vp_in (nI (i + 1)) L := vp_in_nI (by omega) (by omega)
  have v2 : vp_in (nI (i + 2)) L := vp_in_nI (by omega) (by omega)
  have v3 : vp_in (nI (i + 3)) L := vp_in_nI (by omega) (by omega)
  simp only [w_L_law_870, show (1 : Int32) = nI 1 from rfl, show (2 : Int32) = nI 2 from rfl, show (3 : Int32) = nI 3 from rfl, show (4 : Int32) = nI 4 from rfl, show (5 : Int32) = nI 5 from rfl, show (6 : Int32) = nI 6 from rfl, e, v1, v2, v3, true_implies, false_implies, implies_true, not_true_eq_false, not_false_eq_true, not_true, not_false_iff, and_true, true_and, and_false, false_and, true_or, or_true, i1n0, i0e0]
  exact cs_work hN hk hI _ _ _ (fun r r2 s2 => (r = r2 → ∀ x : Int32, x = nI (i + 6) → K s2 x) ∧ (¬ r = r2 → (0 : Int32) = nI 1)) (fun r s' h => ⟨fun _ x hx => by rw [hx]; exact hK s' h, fun q => absurd (rfl) q⟩)
theorem lc_913 {N L k i : Nat} {xs : Nat → Int32} {s : Sx} {K : Sx → Int32 → Prop} (hN : 20000 ≤ N) (hk : k ≤ 600) (hI : Inv k s) (hi : i + 5 < L) (hL : L ≤ 3072) (hK : ∀ s', Inv (k + 1) s' → K s' (nI (i + 6))) : w_L_law_913 N L xs K s (nI i) := by
  have e : ∀ j, nI i + nI j = nI (i + j) := fun j => nI_add i j
  have v1 : vp_in (nI (i + 1)) L := vp_in_nI (by omega) (by omega)
  have v2 : vp_in (nI (i + 2)) L := vp_in_nI (by omega) (by omega)
  have v3 : vp_in (nI (i + 3)) L := vp_in_nI (by omega) (by omega)
  simp only [w_L_law_913, show (1 : Int32) = nI 1 from rfl, show (2 : Int32) = nI 2 from rfl, show (3 : Int32) = nI 3 from rfl, show (4 : Int32) = nI 4 from rfl, show (5 : Int32) = nI 5 from rfl, show (6 : Int32) = nI 6 from rfl, e, v1, v2, v3, true_implies, false_implies, implies_true, not_true_eq_false, not_false_eq_true, not_true, not_false_iff, and_true, true_and, and_false, false_and, true_or, or_true, i1n0, i0e0]
  exact cs_hands hN hk hI _ _ _ (fun r r2 s2 => (r = r2 → ∀ x : Int32, x = nI (i + 6) → K s2 x) ∧ (¬ r = r2 → (0 : Int32) = nI 1)) (fun r s' h => ⟨fun _ x hx => by rw [hx]; exact hK s' h, fun q => absurd (rfl) q⟩)
theorem lc_956 {N L k i : Nat} {xs : Nat → Int32} {s : Sx} {K : Sx → Int32 → Prop} (hN : 20000 ≤ N) (hk : k ≤ 600) (hI : Inv k s) (hi : i + 5 < L) (hL : L ≤ 3072) (hK : ∀ s', Inv (k + 1) s' → K s' (nI (i + 6))) : w_L_law_956 N L xs K s (nI i) := by
  have e : ∀ j, nI i + nI j = nI (i + j) := fun j => nI_add i j
  have v1 : vp_in (nI (i + 1)) L := vp_in_nI (by omega) (by omega)
  have v2 : vp_in (nI (i + 2)) L := vp_in_nI (by omega) (by omega)
  have v3 : vp_in (nI (i + 3)) L := vp_in_nI (by omega) (by omega)
  have v4 : vp_in (nI (i + 4)) L := vp_in_nI (by omega) (by omega)
  have v5 : vp_in (nI (i + 5)) L := vp_in_nI (by omega) (by omega)
  simp only [w_L_law_956, show (1 : Int32) = nI 1 from rfl, show (2 : Int32) = nI 2 from rfl, show (3 : Int32) = nI 3 from rfl, show (4 : Int32) = nI 4 from rfl, show (5 : Int32) = nI 5 from rfl, show (6 : Int32) = nI 6 from rfl, e, v1, v2, v3, v4, v5, true_implies, false_implies, implies_true, not_true_eq_false, not_false_eq_true, not_true, not_false_iff, and_true, true_and, and_false, false_and, true_or, or_true, i1n0, i0e0]
  exact cs_row hN hk hI _ _ _ _ _ (fun r r2 s2 => (r = r2 → ∀ x : Int32, x = nI (i + 6) → K s2 x) ∧ (¬ r = r2 → (0 : Int32) = nI 1)) (fun r s' h => ⟨fun _ x hx => by rw [hx]; exact hK s' h, fun q => absurd (rfl) q⟩)
theorem lc_1019 {N L k i : Nat} {xs : Nat → Int32} {s : Sx} {K : Sx → Int32 → Prop} (hN : 20000 ≤ N) (hk : k ≤ 600) (hI : Inv k s) (hi : i + 5 < L) (hL : L ≤ 3072) (hK : ∀ s', Inv (k + 1) s' → K s' (nI (i + 6))) : w_L_law_1019 N L xs K s (nI i) := by
  have e : ∀ j, nI i + nI j = nI (i + j) := fun j => nI_add i j
  simp only [w_L_law_1019, show (1 : Int32) = nI 1 from rfl, show (2 : Int32) = nI 2 from rfl, show (3 : Int32) = nI 3 from rfl, show (4 : Int32) = nI 4 from rfl, show (5 : Int32) = nI 5 from rfl, show (6 : Int32) = nI 6 from rfl, e, true_implies, false_implies, implies_true, not_true_eq_false, not_false_eq_true, not_true, not_false_iff, and_true, true_and, and_false, false_and, true_or, or_true, i1n0, i0e0]
  exact cs_week hN hk hI (fun r r2 s2 => (r = r2 → ∀ x : Int32, x = nI (i + 6) → K s2 x) ∧ (¬ r = r2 → (0 : Int32) = nI 1)) (fun r s' h => ⟨fun _ x hx => by rw [hx]; exact hK s' h, fun q => absurd (rfl) q⟩)
theorem lc_1032 {N L k i : Nat} {xs : Nat → Int32} {s : Sx} {K : Sx → Int32 → Prop} (hN : 20000 ≤ N) (hk : k ≤ 600) (hI : Inv k s) (hi : i + 5 < L) (hL : L ≤ 3072) (hK : ∀ s', Inv (k + 1) s' → K s' (nI (i + 6))) : w_L_law_1032 N L xs K s (nI i) := by
  have e : ∀ j, nI i + nI j = nI (i + j) := fun j => nI_add i j
  have v1 : vp_in (nI (i + 1)) L := vp_in_nI (by omega) (by omega)
  have v2 : vp_in (nI (i + 2)) L := vp_in_nI (by omega) (by omega)
  simp only [w_L_law_1032, show (1 : Int32) = nI 1 from rfl, show (2 : Int32) = nI 2 from rfl, show (3 : Int32) = nI 3 from rfl, show (4 : Int32) = nI 4 from rfl, show (5 : Int32) = nI 5 from rfl, show (6 : Int32) = nI 6 from rfl, e, v1, v2, true_implies, false_implies, implies_true, not_true_eq_false, not_false_eq_true, not_true, not_false_iff, and_true, true_and, and_false, false_and, true_or, or_true, i1n0, i0e0]
  exact cs_ofWork hN hk hI _ _ (fun r r2 s2 => (r = r2 → ∀ x : Int32, x = nI (i + 6) → K s2 x) ∧ (¬ r = r2 → (0 : Int32) = nI 1)) (fun r s' h => ⟨fun _ x hx => by rw [hx]; exact hK s' h, fun q => absurd (rfl) q⟩)
theorem lc_1065 {N L k i : Nat} {xs : Nat → Int32} {s : Sx} {K : Sx → Int32 → Prop} (hN : 20000 ≤ N) (hk : k ≤ 600) (hI : Inv k s) (hi : i + 5 < L) (hL : L ≤ 3072) (hK : ∀ s', Inv (k + 1) s' → K s' (nI (i + 6))) : w_L_law_1065 N L xs K s (nI i) := by
  have e : ∀ j, nI i + nI j = nI (i + j) := fun j => nI_add i j
  have v1 : vp_in (nI (i + 1)) L := vp_in_nI (by omega) (by omega)
  have v2 : vp_in (nI (i + 2)) L := vp_in_nI (by omega) (by omega)
  have v3 : vp_in (nI (i + 3)) L := vp_in_nI (by omega) (by omega)
  simp only [w_L_law_1065, show (1 : Int32) = nI 1 from rfl, show (2 : Int32) = nI 2 from rfl, show (3 : Int32) = nI 3 from rfl, show (4 : Int32) = nI 4 from rfl, show (5 : Int32) = nI 5 from rfl, show (6 : Int32) = nI 6 from rfl, e, v1, v2, v3, true_implies, false_implies, implies_true, not_true_eq_false, not_false_eq_true, not_true, not_false_iff, and_true, true_and, and_false, false_and, true_or, or_true, i1n0, i0e0]
  exact cs_level hN hk hI _ _ _ (fun r r2 s2 => (r = r2 → ∀ x : Int32, x = nI (i + 6) → K s2 x) ∧ (¬ r = r2 → (0 : Int32) = nI 1)) (fun r s' h => ⟨fun _ x hx => by rw [hx]; exact hK s' h, fun q => absurd (rfl) q⟩)
theorem lc_1108 {N L k i : Nat} {xs : Nat → Int32} {s : Sx} {K : Sx → Int32 → Prop} (hN : 20000 ≤ N) (hk : k ≤ 600) (hI : Inv k s) (hi : i + 5 < L) (hL : L ≤ 3072) (hK : ∀ s', Inv (k + 1) s' → K s' (nI (i + 6))) : w_L_law_1108 N L xs K s (nI i) := by
  have e : ∀ j, nI i + nI j = nI (i + j) := fun j => nI_add i j
  have v1 : vp_in (nI (i + 1)) L := vp_in_nI (by omega) (by omega)
  have v2 : vp_in (nI (i + 2)) L := vp_in_nI (by omega) (by omega)
  simp only [w_L_law_1108, show (1 : Int32) = nI 1 from rfl, show (2 : Int32) = nI 2 from rfl, show (3 : Int32) = nI 3 from rfl, show (4 : Int32) = nI 4 from rfl, show (5 : Int32) = nI 5 from rfl, show (6 : Int32) = nI 6 from rfl, e, v1, v2, true_implies, false_implies, implies_true, not_true_eq_false, not_false_eq_true, not_true, not_false_iff, and_true, true_and, and_false, false_and, true_or, or_true, i1n0, i0e0]
  exact cs_told hN hk hI _ _ (fun r r2 s2 => (lg_cmp r r2 = 0 → ∀ x : Int32, x = nI (i + 6) → K s2 x) ∧ (¬ lg_cmp r r2 = 0 → (0 : Int32) = nI 1)) (fun r s' h => ⟨fun _ x hx => by rw [hx]; exact hK s' h, fun q => absurd ((lg_cmp_eq r r).mpr rfl) q⟩)
theorem lc_1142 {N L k i : Nat} {xs : Nat → Int32} {s : Sx} {K : Sx → Int32 → Prop} (hN : 20000 ≤ N) (hk : k ≤ 600) (hI : Inv k s) (hi : i + 5 < L) (hL : L ≤ 3072) (hK : ∀ s', Inv (k + 1) s' → K s' (nI (i + 6))) : w_L_law_1142 N L xs K s (nI i) := by
  have e : ∀ j, nI i + nI j = nI (i + j) := fun j => nI_add i j
  have v1 : vp_in (nI (i + 1)) L := vp_in_nI (by omega) (by omega)
  simp only [w_L_law_1142, show (1 : Int32) = nI 1 from rfl, show (2 : Int32) = nI 2 from rfl, show (3 : Int32) = nI 3 from rfl, show (4 : Int32) = nI 4 from rfl, show (5 : Int32) = nI 5 from rfl, show (6 : Int32) = nI 6 from rfl, e, v1, true_implies, false_implies, implies_true, not_true_eq_false, not_false_eq_true, not_true, not_false_iff, and_true, true_and, and_false, false_and, true_or, or_true, i1n0, i0e0]
  exact cs_grew hN hk hI _ (fun r r2 s2 => (r = r2 → ∀ x : Int32, x = nI (i + 6) → K s2 x) ∧ (¬ r = r2 → (0 : Int32) = nI 1)) (fun r s' h => ⟨fun _ x hx => by rw [hx]; exact hK s' h, fun q => absurd (rfl) q⟩)
theorem lc_1165 {N L k i : Nat} {xs : Nat → Int32} {s : Sx} {K : Sx → Int32 → Prop} (hN : 20000 ≤ N) (hk : k ≤ 600) (hI : Inv k s) (hi : i + 5 < L) (hL : L ≤ 3072) (hK : ∀ s', Inv (k + 1) s' → K s' (nI (i + 6))) : w_L_law_1165 N L xs K s (nI i) := by
  have e : ∀ j, nI i + nI j = nI (i + j) := fun j => nI_add i j
  have v1 : vp_in (nI (i + 1)) L := vp_in_nI (by omega) (by omega)
  have v2 : vp_in (nI (i + 2)) L := vp_in_nI (by omega) (by omega)
  have v3 : vp_in (nI (i + 3)) L := vp_in_nI (by omega) (by omega)
  have v4 : vp_in (nI (i + 4)) L := vp_in_nI (by omega) (by omega)
  simp only [w_L_law_1165, show (1 : Int32) = nI 1 from rfl, show (2 : Int32) = nI 2 from rfl, show (3 : Int32) = nI 3 from rfl, show (4 : Int32) = nI 4 from rfl, show (5 : Int32) = nI 5 from rfl, show (6 : Int32) = nI 6 from rfl, e, v1, v2, v3, v4, true_implies, false_implies, implies_true, not_true_eq_false, not_false_eq_true, not_true, not_false_iff, and_true, true_and, and_false, false_and, true_or, or_true, i1n0, i0e0]
  exact cs_stand hN hk hI _ _ _ _ (fun r r2 s2 => (r = r2 → ∀ x : Int32, x = nI (i + 6) → K s2 x) ∧ (¬ r = r2 → (0 : Int32) = nI 1)) (fun r s' h => ⟨fun _ x hx => by rw [hx]; exact hK s' h, fun q => absurd (rfl) q⟩)
theorem lc_1218 {N L k i : Nat} {xs : Nat → Int32} {s : Sx} {K : Sx → Int32 → Prop} (hN : 20000 ≤ N) (hk : k ≤ 600) (hI : Inv k s) (hi : i + 5 < L) (hL : L ≤ 3072) (hK : ∀ s', Inv (k + 1) s' → K s' (nI (i + 6))) : w_L_law_1218 N L xs K s (nI i) := by
  have e : ∀ j, nI i + nI j = nI (i + j) := fun j => nI_add i j
  have v1 : vp_in (nI (i + 1)) L := vp_in_nI (by omega) (by omega)
  have v2 : vp_in (nI (i + 2)) L := vp_in_nI (by omega) (by omega)
  simp only [w_L_law_1218, show (1 : Int32) = nI 1 from rfl, show (2 : Int32) = nI 2 from rfl, show (3 : Int32) = nI 3 from rfl, show (4 : Int32) = nI 4 from rfl, show (5 : Int32) = nI 5 from rfl, show (6 : Int32) = nI 6 from rfl, e, v1, v2, true_implies, false_implies, implies_true, not_true_eq_false, not_false_eq_true, not_true, not_false_iff, and_true, true_and, and_false, false_and, true_or, or_true, i1n0, i0e0]
  exact cs_live hN hk hI _ _ (fun r r2 s2 => (r = r2 → ∀ x : Int32, x = nI (i + 6) → K s2 x) ∧ (¬ r = r2 → (0 : Int32) = nI 1)) (fun r s' h => ⟨fun _ x hx => by rw [hx]; exact hK s' h, fun q => absurd (rfl) q⟩)
theorem lc_1251 {N L k i : Nat} {xs : Nat → Int32} {s : Sx} {K : Sx → Int32 → Prop} (hN : 20000 ≤ N) (hk : k ≤ 600) (hI : Inv k s) (hi : i + 5 < L) (hL : L ≤ 3072) (hK : ∀ s', Inv (k + 1) s' → K s' (nI (i + 6))) : w_L_law_1251 N L xs K s (nI i) := by
  have e : ∀ j, nI i + nI j = nI (i + j) := fun j => nI_add i j
  have v1 : vp_in (nI (i + 1)) L := vp_in_nI (by omega) (by omega)
  have v2 : vp_in (nI (i + 2)) L := vp_in_nI (by omega) (by omega)
  simp only [w_L_law_1251, show (1 : Int32) = nI 1 from rfl, show (2 : Int32) = nI 2 from rfl, show (3 : Int32) = nI 3 from rfl, show (4 : Int32) = nI 4 from rfl, show (5 : Int32) = nI 5 from rfl, show (6 : Int32) = nI 6 from rfl, e, v1, v2, true_implies, false_implies, implies_true, not_true_eq_false, not_false_eq_true, not_true, not_false_iff, and_true, true_and, and_false, false_and, true_or, or_true, i1n0, i0e0]
  exact cs_forest hN hk hI _ _ (fun r r2 s2 => (lg_cmp r r2 = 0 → ∀ x : Int32, x = nI (i + 6) → K s2 x) ∧ (¬ lg_cmp r r2 = 0 → (0 : Int32) = nI 1)) (fun r s' h => ⟨fun _ x hx => by rw [hx]; exact hK s' h, fun q => absurd ((lg_cmp_eq r r).mpr rfl) q⟩)
theorem lc_1285 {N L k i : Nat} {xs : Nat → Int32} {s : Sx} {K : Sx → Int32 → Prop} (hN : 20000 ≤ N) (hk : k ≤ 600) (hI : Inv k s) (hi : i + 5 < L) (hL : L ≤ 3072) (hK : ∀ s', Inv (k + 1) s' → K s' (nI (i + 6))) : w_L_law_1285 N L xs K s (nI i) := by
  have e : ∀ j, nI i + nI j = nI (i + j) := fun j => nI_add i j
  have v1 : vp_in (nI (i + 1)) L := vp_in_nI (by omega) (by omega)
  have v2 : vp_in (nI (i + 2)) L := vp_in_nI (by omega) (by omega)
  have v3 : vp_in (nI (i + 3)) L := vp_in_nI (by omega) (by omega)
  have v4 : vp_in (nI (i + 4)) L := vp_in_nI (by omega) (by omega)
  simp only [w_L_law_1285, show (1 : Int32) = nI 1 from rfl, show (2 : Int32) = nI 2 from rfl, show (3 : Int32) = nI 3 from rfl, show (4 : Int32) = nI 4 from rfl, show (5 : Int32) = nI 5 from rfl, show (6 : Int32) = nI 6 from rfl, e, v1, v2, v3, v4, true_implies, false_implies, implies_true, not_true_eq_false, not_false_eq_true, not_true, not_false_iff, and_true, true_and, and_false, false_and, true_or, or_true, i1n0, i0e0]
  exact cs_fire hN hk hI _ _ _ _ (fun r r2 s2 => (r = r2 → ∀ x : Int32, x = nI (i + 6) → K s2 x) ∧ (¬ r = r2 → (0 : Int32) = nI 1)) (fun r s' h => ⟨fun _ x hx => by rw [hx]; exact hK s' h, fun q => absurd (rfl) q⟩)
theorem lc_1338 {N L k i : Nat} {xs : Nat → Int32} {s : Sx} {K : Sx → Int32 → Prop} (hN : 20000 ≤ N) (hk : k ≤ 600) (hI : Inv k s) (hi : i + 5 < L) (hL : L ≤ 3072) (hK : ∀ s', Inv (k + 1) s' → K s' (nI (i + 6))) : w_L_law_1338 N L xs K s (nI i) := by
  have e : ∀ j, nI i + nI j = nI (i + j) := fun j => nI_add i j
  have v1 : vp_in (nI (i + 1)) L := vp_in_nI (by omega) (by omega)
  have v2 : vp_in (nI (i + 2)) L := vp_in_nI (by omega) (by omega)
  simp only [w_L_law_1338, show (1 : Int32) = nI 1 from rfl, show (2 : Int32) = nI 2 from rfl, show (3 : Int32) = nI 3 from rfl, show (4 : Int32) = nI 4 from rfl, show (5 : Int32) = nI 5 from rfl, show (6 : Int32) = nI 6 from rfl, e, v1, v2, true_implies, false_implies, implies_true, not_true_eq_false, not_false_eq_true, not_true, not_false_iff, and_true, true_and, and_false, false_and, true_or, or_true, i1n0, i0e0]
  exact cs_crew hN hk hI _ _ (fun r r2 s2 => (r = r2 → ∀ x : Int32, x = nI (i + 6) → K s2 x) ∧ (¬ r = r2 → (0 : Int32) = nI 1)) (fun r s' h => ⟨fun _ x hx => by rw [hx]; exact hK s' h, fun q => absurd (rfl) q⟩)
theorem lc_1371 {N L k i : Nat} {xs : Nat → Int32} {s : Sx} {K : Sx → Int32 → Prop} (hN : 20000 ≤ N) (hk : k ≤ 600) (hI : Inv k s) (hi : i + 5 < L) (hL : L ≤ 3072) (hK : ∀ s', Inv (k + 1) s' → K s' (nI (i + 6))) : w_L_law_1371 N L xs K s (nI i) := by
  have e : ∀ j, nI i + nI j = nI (i + j) := fun j => nI_add i j
  have v1 : vp_in (nI (i + 1)) L := vp_in_nI (by omega) (by omega)
  simp only [w_L_law_1371, show (1 : Int32) = nI 1 from rfl, show (2 : Int32) = nI 2 from rfl, show (3 : Int32) = nI 3 from rfl, show (4 : Int32) = nI 4 from rfl, show (5 : Int32) = nI 5 from rfl, show (6 : Int32) = nI 6 from rfl, e, v1, true_implies, false_implies, implies_true, not_true_eq_false, not_false_eq_true, not_true, not_false_iff, and_true, true_and, and_false, false_and, true_or, or_true, i1n0, i0e0]
  exact cs_lost hN hk hI _ (fun r r2 s2 => (r = r2 → ∀ x : Int32, x = nI (i + 6) → K s2 x) ∧ (¬ r = r2 → (0 : Int32) = nI 1)) (fun r s' h => ⟨fun _ x hx => by rw [hx]; exact hK s' h, fun q => absurd (rfl) q⟩)
theorem lc_1394 {N L k i : Nat} {xs : Nat → Int32} {s : Sx} {K : Sx → Int32 → Prop} (hcall : HC) (hN : 20000 ≤ N) (hk : k ≤ 600) (hI : Inv k s) (hi : i + 5 < L) (hL : L ≤ 3072) (hK : ∀ s', Inv (k + 1) s' → K s' (nI (i + 6))) : w_L_law_1394 N L xs K s (nI i) := by
  have e : ∀ j, nI i + nI j = nI (i + j) := fun j => nI_add i j
  have v1 : vp_in (nI (i + 1)) L := vp_in_nI (by omega) (by omega)
  simp only [w_L_law_1394, show (1 : Int32) = nI 1 from rfl, show (2 : Int32) = nI 2 from rfl, show (3 : Int32) = nI 3 from rfl, show (4 : Int32) = nI 4 from rfl, show (5 : Int32) = nI 5 from rfl, show (6 : Int32) = nI 6 from rfl, e, v1, true_implies, false_implies, implies_true, not_true_eq_false, not_false_eq_true, not_true, not_false_iff, and_true, true_and, and_false, false_and, true_or, or_true, i1n0, i0e0]
  exact hcall  hN hk hI _ (fun r r2 s2 => (r = r2 → ∀ x : Int32, x = nI (i + 6) → K s2 x) ∧ (¬ r = r2 → (0 : Int32) = nI 1)) (fun r s' h => ⟨fun _ x hx => by rw [hx]; exact hK s' h, fun q => absurd (rfl) q⟩)
theorem lc_1417 {N L k i : Nat} {xs : Nat → Int32} {s : Sx} {K : Sx → Int32 → Prop} (hN : 20000 ≤ N) (hk : k ≤ 600) (hI : Inv k s) (hi : i + 5 < L) (hL : L ≤ 3072) (hK : ∀ s', Inv (k + 1) s' → K s' (nI (i + 6))) : w_L_law_1417 N L xs K s (nI i) := by
  have e : ∀ j, nI i + nI j = nI (i + j) := fun j => nI_add i j
  have v1 : vp_in (nI (i + 1)) L := vp_in_nI (by omega) (by omega)
  have v2 : vp_in (nI (i + 2)) L := vp_in_nI (by omega) (by omega)
  have v3 : vp_in (nI (i + 3)) L := vp_in_nI (by omega) (by omega)
  have v4 : vp_in (nI (i + 4)) L := vp_in_nI (by omega) (by omega)
  simp only [w_L_law_1417, w_L_law_1446, w_L_law_1478, show (1 : Int32) = nI 1 from rfl, show (2 : Int32) = nI 2 from rfl, show (3 : Int32) = nI 3 from rfl, show (4 : Int32) = nI 4 from rfl, show (6 : Int32) = nI 6 from rfl, e, v1, v2, v3, v4, true_implies, false_implies, implies_true, not_true_eq_false, not_false_eq_true, not_true, not_false_iff, and_true, true_and, and_false, false_and, true_or, or_true, i1n0, i0e0]
  by_cases c : xs (nI (i + 4)).toNatClampNeg = 0
  · simp only [c, true_implies, false_implies, implies_true, not_true_eq_false, not_false_eq_true, not_true, not_false_iff, and_true, true_and, and_false, false_and, true_or, or_true, i1n0, i0e0]
    exact cs_place hN hk hI _ _ _ _ (fun r r2 s2 => (r = r2 → ∀ x : Int32, x = nI (i + 6) → K s2 x) ∧ (¬ r = r2 → (0 : Int32) = nI 1)) (fun r s' h => ⟨fun _ x hx => by rw [hx]; exact hK s' h, fun q => absurd rfl q⟩)
  · simp only [c, true_implies, false_implies, implies_true, not_true_eq_false, not_false_eq_true, not_true, not_false_iff, and_true, true_and, and_false, false_and, true_or, or_true, i1n0, i0e0]
    exact cs_place hN hk hI _ _ _ _ (fun r r2 s2 => (r = r2 → ∀ x : Int32, x = nI (i + 6) → K s2 x) ∧ (¬ r = r2 → (0 : Int32) = nI 1)) (fun r s' h => ⟨fun _ x hx => by rw [hx]; exact hK s' h, fun q => absurd rfl q⟩)
theorem lc_1486 {N L k i : Nat} {xs : Nat → Int32} {s : Sx} {K : Sx → Int32 → Prop} (hN : 20000 ≤ N) (hk : k ≤ 600) (hI : Inv k s) (hi : i + 5 < L) (hL : L ≤ 3072) (hK : ∀ s', Inv (k + 1) s' → K s' (nI (i + 6))) : w_L_law_1486 N L xs K s (nI i) := by
  have e : ∀ j, nI i + nI j = nI (i + j) := fun j => nI_add i j
  have v1 : vp_in (nI (i + 1)) L := vp_in_nI (by omega) (by omega)
  simp only [w_L_law_1486, show (1 : Int32) = nI 1 from rfl, show (2 : Int32) = nI 2 from rfl, show (3 : Int32) = nI 3 from rfl, show (4 : Int32) = nI 4 from rfl, show (5 : Int32) = nI 5 from rfl, show (6 : Int32) = nI 6 from rfl, e, v1, true_implies, false_implies, implies_true, not_true_eq_false, not_false_eq_true, not_true, not_false_iff, and_true, true_and, and_false, false_and, true_or, or_true, i1n0, i0e0]
  exact cs_move hN hk hI _ (fun r r2 s2 => (lg_cmp r r2 = 0 → ∀ x : Int32, x = nI (i + 6) → K s2 x) ∧ (¬ lg_cmp r r2 = 0 → (0 : Int32) = nI 1)) (fun r s' h => ⟨fun _ x hx => by rw [hx]; exact hK s' h, fun q => absurd ((lg_cmp_eq r r).mpr rfl) q⟩)
theorem lc_1510 {N L k i : Nat} {xs : Nat → Int32} {s : Sx} {K : Sx → Int32 → Prop} (hN : 20000 ≤ N) (hk : k ≤ 600) (hI : Inv k s) (hi : i + 5 < L) (hL : L ≤ 3072) (hK : ∀ s', Inv (k + 1) s' → K s' (nI (i + 6))) : w_L_law_1510 N L xs K s (nI i) := by
  have e : ∀ j, nI i + nI j = nI (i + j) := fun j => nI_add i j
  have v1 : vp_in (nI (i + 1)) L := vp_in_nI (by omega) (by omega)
  have v2 : vp_in (nI (i + 2)) L := vp_in_nI (by omega) (by omega)
  have v3 : vp_in (nI (i + 3)) L := vp_in_nI (by omega) (by omega)
  have v4 : vp_in (nI (i + 4)) L := vp_in_nI (by omega) (by omega)
  simp only [w_L_law_1510, show (1 : Int32) = nI 1 from rfl, show (2 : Int32) = nI 2 from rfl, show (3 : Int32) = nI 3 from rfl, show (4 : Int32) = nI 4 from rfl, show (5 : Int32) = nI 5 from rfl, show (6 : Int32) = nI 6 from rfl, e, v1, v2, v3, v4, true_implies, false_implies, implies_true, not_true_eq_false, not_false_eq_true, not_true, not_false_iff, and_true, true_and, and_false, false_and, true_or, or_true, i1n0, i0e0]
  exact cs_gain hN hk hI _ _ _ _ (fun r r2 s2 => (lg_cmp r r2 = 0 → ∀ x : Int32, x = nI (i + 6) → K s2 x) ∧ (¬ lg_cmp r r2 = 0 → (0 : Int32) = nI 1)) (fun r s' h => ⟨fun _ x hx => by rw [hx]; exact hK s' h, fun q => absurd ((lg_cmp_eq r r).mpr rfl) q⟩)
theorem lc_1564 {N L k i : Nat} {xs : Nat → Int32} {s : Sx} {K : Sx → Int32 → Prop} (hN : 20000 ≤ N) (hk : k ≤ 600) (hI : Inv k s) (hi : i + 5 < L) (hL : L ≤ 3072) (hK : ∀ s', Inv (k + 1) s' → K s' (nI (i + 6))) : w_L_law_1564 N L xs K s (nI i) := by
  have e : ∀ j, nI i + nI j = nI (i + j) := fun j => nI_add i j
  simp only [w_L_law_1564, show (1 : Int32) = nI 1 from rfl, show (2 : Int32) = nI 2 from rfl, show (3 : Int32) = nI 3 from rfl, show (4 : Int32) = nI 4 from rfl, show (5 : Int32) = nI 5 from rfl, show (6 : Int32) = nI 6 from rfl, e, true_implies, false_implies, implies_true, not_true_eq_false, not_false_eq_true, not_true, not_false_iff, and_true, true_and, and_false, false_and, true_or, or_true, i1n0, i0e0]
  exact cs_go hN hk hI (fun r r2 s2 => (r = r2 → ∀ x : Int32, x = nI (i + 6) → K s2 x) ∧ (¬ r = r2 → (0 : Int32) = nI 1)) (fun r s' h => ⟨fun _ x hx => by rw [hx]; exact hK s' h, fun q => absurd (rfl) q⟩)
theorem lc_1577 {N L k i : Nat} {xs : Nat → Int32} {s : Sx} {K : Sx → Int32 → Prop} (hN : 20000 ≤ N) (hk : k ≤ 600) (hI : Inv k s) (hi : i + 5 < L) (hL : L ≤ 3072) (hK : ∀ s', Inv (k + 1) s' → K s' (nI (i + 6))) : w_L_law_1577 N L xs K s (nI i) := by
  have e : ∀ j, nI i + nI j = nI (i + j) := fun j => nI_add i j
  have v1 : vp_in (nI (i + 1)) L := vp_in_nI (by omega) (by omega)
  have v2 : vp_in (nI (i + 2)) L := vp_in_nI (by omega) (by omega)
  simp only [w_L_law_1577, show (1 : Int32) = nI 1 from rfl, show (2 : Int32) = nI 2 from rfl, show (3 : Int32) = nI 3 from rfl, show (4 : Int32) = nI 4 from rfl, show (5 : Int32) = nI 5 from rfl, show (6 : Int32) = nI 6 from rfl, e, v1, v2, true_implies, false_implies, implies_true, not_true_eq_false, not_false_eq_true, not_true, not_false_iff, and_true, true_and, and_false, false_and, true_or, or_true, i1n0, i0e0]
  exact cs_spot hN hk hI _ _ (fun r r2 s2 => (r = r2 → ∀ x : Int32, x = nI (i + 6) → K s2 x) ∧ (¬ r = r2 → (0 : Int32) = nI 1)) (fun r s' h => ⟨fun _ x hx => by rw [hx]; exact hK s' h, fun q => absurd (rfl) q⟩)
theorem lc_1610 {N L k i : Nat} {xs : Nat → Int32} {s : Sx} {K : Sx → Int32 → Prop} (hN : 20000 ≤ N) (hk : k ≤ 600) (hI : Inv k s) (hi : i + 5 < L) (hL : L ≤ 3072) (hK : ∀ s', Inv (k + 1) s' → K s' (nI (i + 6))) : w_L_law_1610 N L xs K s (nI i) := by
  have e : ∀ j, nI i + nI j = nI (i + j) := fun j => nI_add i j
  have v1 : vp_in (nI (i + 1)) L := vp_in_nI (by omega) (by omega)
  have v2 : vp_in (nI (i + 2)) L := vp_in_nI (by omega) (by omega)
  have v3 : vp_in (nI (i + 3)) L := vp_in_nI (by omega) (by omega)
  simp only [w_L_law_1610, show (1 : Int32) = nI 1 from rfl, show (2 : Int32) = nI 2 from rfl, show (3 : Int32) = nI 3 from rfl, show (4 : Int32) = nI 4 from rfl, show (5 : Int32) = nI 5 from rfl, show (6 : Int32) = nI 6 from rfl, e, v1, v2, v3, true_implies, false_implies, implies_true, not_true_eq_false, not_false_eq_true, not_true, not_false_iff, and_true, true_and, and_false, false_and, true_or, or_true, i1n0, i0e0]
  exact cs_sheet hN hk hI _ _ _ (fun r r2 s2 => (r = r2 → ∀ x : Int32, x = nI (i + 6) → K s2 x) ∧ (¬ r = r2 → (0 : Int32) = nI 1)) (fun r s' h => ⟨fun _ x hx => by rw [hx]; exact hK s' h, fun q => absurd (rfl) q⟩)
theorem lc_1653 {N L k i : Nat} {xs : Nat → Int32} {s : Sx} {K : Sx → Int32 → Prop} (hN : 20000 ≤ N) (hk : k ≤ 600) (hI : Inv k s) (hi : i + 5 < L) (hL : L ≤ 3072) (hK : ∀ s', Inv (k + 1) s' → K s' (nI (i + 6))) : w_L_law_1653 N L xs K s (nI i) := by
  have e : ∀ j, nI i + nI j = nI (i + j) := fun j => nI_add i j
  have v1 : vp_in (nI (i + 1)) L := vp_in_nI (by omega) (by omega)
  simp only [w_L_law_1653, show (1 : Int32) = nI 1 from rfl, show (2 : Int32) = nI 2 from rfl, show (3 : Int32) = nI 3 from rfl, show (4 : Int32) = nI 4 from rfl, show (5 : Int32) = nI 5 from rfl, show (6 : Int32) = nI 6 from rfl, e, v1, true_implies, false_implies, implies_true, not_true_eq_false, not_false_eq_true, not_true, not_false_iff, and_true, true_and, and_false, false_and, true_or, or_true, i1n0, i0e0]
  exact cs_lose hN hk hI _ (fun r r2 s2 => (r = r2 → ∀ x : Int32, x = nI (i + 6) → K s2 x) ∧ (¬ r = r2 → (0 : Int32) = nI 1)) (fun r s' h => ⟨fun _ x hx => by rw [hx]; exact hK s' h, fun q => absurd (rfl) q⟩)
theorem lc_1676 {N L k i : Nat} {xs : Nat → Int32} {s : Sx} {K : Sx → Int32 → Prop} (hN : 20000 ≤ N) (hk : k ≤ 600) (hI : Inv k s) (hi : i + 5 < L) (hL : L ≤ 3072) (hK : ∀ s', Inv (k + 1) s' → K s' (nI (i + 6))) : w_L_law_1676 N L xs K s (nI i) := by
  have e : ∀ j, nI i + nI j = nI (i + j) := fun j => nI_add i j
  have v1 : vp_in (nI (i + 1)) L := vp_in_nI (by omega) (by omega)
  have v2 : vp_in (nI (i + 2)) L := vp_in_nI (by omega) (by omega)
  have v3 : vp_in (nI (i + 3)) L := vp_in_nI (by omega) (by omega)
  simp only [w_L_law_1676, show (1 : Int32) = nI 1 from rfl, show (2 : Int32) = nI 2 from rfl, show (3 : Int32) = nI 3 from rfl, show (4 : Int32) = nI 4 from rfl, show (5 : Int32) = nI 5 from rfl, show (6 : Int32) = nI 6 from rfl, e, v1, v2, v3, true_implies, false_implies, implies_true, not_true_eq_false, not_false_eq_true, not_true, not_false_iff, and_true, true_and, and_false, false_and, true_or, or_true, i1n0, i0e0]
  exact cs_put hN hk hI _ _ _ (fun r r2 s2 => (r = r2 → ∀ x : Int32, x = nI (i + 6) → K s2 x) ∧ (¬ r = r2 → (0 : Int32) = nI 1)) (fun r s' h => ⟨fun _ x hx => by rw [hx]; exact hK s' h, fun q => absurd (rfl) q⟩)
theorem lc_1719 {N L k i : Nat} {xs : Nat → Int32} {s : Sx} {K : Sx → Int32 → Prop} (hN : 20000 ≤ N) (hk : k ≤ 600) (hI : Inv k s) (hi : i + 5 < L) (hL : L ≤ 3072) (hK : ∀ s', Inv (k + 1) s' → K s' (nI (i + 6))) : w_L_law_1719 N L xs K s (nI i) := by
  have e : ∀ j, nI i + nI j = nI (i + j) := fun j => nI_add i j
  have v1 : vp_in (nI (i + 1)) L := vp_in_nI (by omega) (by omega)
  have v2 : vp_in (nI (i + 2)) L := vp_in_nI (by omega) (by omega)
  have v3 : vp_in (nI (i + 3)) L := vp_in_nI (by omega) (by omega)
  simp only [w_L_law_1719, show (1 : Int32) = nI 1 from rfl, show (2 : Int32) = nI 2 from rfl, show (3 : Int32) = nI 3 from rfl, show (4 : Int32) = nI 4 from rfl, show (5 : Int32) = nI 5 from rfl, show (6 : Int32) = nI 6 from rfl, e, v1, v2, v3, true_implies, false_implies, implies_true, not_true_eq_false, not_false_eq_true, not_true, not_false_iff, and_true, true_and, and_false, false_and, true_or, or_true, i1n0, i0e0]
  exact cs_cell hN hk hI _ _ _ (fun r r2 s2 => (lg_cmp r r2 = 0 → ∀ x : Int32, x = nI (i + 6) → K s2 x) ∧ (¬ lg_cmp r r2 = 0 → (0 : Int32) = nI 1)) (fun r s' h => ⟨fun _ x hx => by rw [hx]; exact hK s' h, fun q => absurd ((lg_cmp_eq r r).mpr rfl) q⟩)
theorem lc_1763 {N L k i : Nat} {xs : Nat → Int32} {s : Sx} {K : Sx → Int32 → Prop} (hN : 20000 ≤ N) (hk : k ≤ 600) (hI : Inv k s) (hi : i + 5 < L) (hL : L ≤ 3072) (hK : ∀ s', Inv (k + 1) s' → K s' (nI (i + 6))) : w_L_law_1763 N L xs K s (nI i) := by
  have e : ∀ j, nI i + nI j = nI (i + j) := fun j => nI_add i j
  have v1 : vp_in (nI (i + 1)) L := vp_in_nI (by omega) (by omega)
  simp only [w_L_law_1763, show (1 : Int32) = nI 1 from rfl, show (2 : Int32) = nI 2 from rfl, show (3 : Int32) = nI 3 from rfl, show (4 : Int32) = nI 4 from rfl, show (5 : Int32) = nI 5 from rfl, show (6 : Int32) = nI 6 from rfl, e, v1, true_implies, false_implies, implies_true, not_true_eq_false, not_false_eq_true, not_true, not_false_iff, and_true, true_and, and_false, false_and, true_or, or_true, i1n0, i0e0]
  exact cs_tell hN hk hI _ (fun r r2 s2 => (r = r2 → ∀ x : Int32, x = nI (i + 6) → K s2 x) ∧ (¬ r = r2 → (0 : Int32) = nI 1)) (fun r s' h => ⟨fun _ x hx => by rw [hx]; exact hK s' h, fun q => absurd (rfl) q⟩)
theorem lc_1786 {N L k i : Nat} {xs : Nat → Int32} {s : Sx} {K : Sx → Int32 → Prop} (hN : 20000 ≤ N) (hk : k ≤ 600) (hI : Inv k s) (hi : i + 5 < L) (hL : L ≤ 3072) (hK : ∀ s', Inv (k + 1) s' → K s' (nI (i + 6))) : w_L_law_1786 N L xs K s (nI i) := by
  have e : ∀ j, nI i + nI j = nI (i + j) := fun j => nI_add i j
  have v1 : vp_in (nI (i + 1)) L := vp_in_nI (by omega) (by omega)
  simp only [w_L_law_1786, show (1 : Int32) = nI 1 from rfl, show (2 : Int32) = nI 2 from rfl, show (3 : Int32) = nI 3 from rfl, show (4 : Int32) = nI 4 from rfl, show (5 : Int32) = nI 5 from rfl, show (6 : Int32) = nI 6 from rfl, e, v1, true_implies, false_implies, implies_true, not_true_eq_false, not_false_eq_true, not_true, not_false_iff, and_true, true_and, and_false, false_and, true_or, or_true, i1n0, i0e0]
  exact cs_roll hN hk hI _ (fun r r2 s2 => (r = r2 → ∀ x : Int32, x = nI (i + 6) → K s2 x) ∧ (¬ r = r2 → (0 : Int32) = nI 1)) (fun r s' h => ⟨fun _ x hx => by rw [hx]; exact hK s' h, fun q => absurd (rfl) q⟩)
theorem lc_1809 {N L k i : Nat} {xs : Nat → Int32} {s : Sx} {K : Sx → Int32 → Prop} (hN : 20000 ≤ N) (hk : k ≤ 600) (hI : Inv k s) (hi : i + 5 < L) (hL : L ≤ 3072) (hK : ∀ s', Inv (k + 1) s' → K s' (nI (i + 6))) : w_L_law_1809 N L xs K s (nI i) := by
  have e : ∀ j, nI i + nI j = nI (i + j) := fun j => nI_add i j
  have v1 : vp_in (nI (i + 1)) L := vp_in_nI (by omega) (by omega)
  have v2 : vp_in (nI (i + 2)) L := vp_in_nI (by omega) (by omega)
  simp only [w_L_law_1809, show (1 : Int32) = nI 1 from rfl, show (2 : Int32) = nI 2 from rfl, show (3 : Int32) = nI 3 from rfl, show (4 : Int32) = nI 4 from rfl, show (5 : Int32) = nI 5 from rfl, show (6 : Int32) = nI 6 from rfl, e, v1, v2, true_implies, false_implies, implies_true, not_true_eq_false, not_false_eq_true, not_true, not_false_iff, and_true, true_and, and_false, false_and, true_or, or_true, i1n0, i0e0]
  exact cs_as hN hk hI _ _ (fun r r2 s2 => (r = r2 → ∀ x : Int32, x = nI (i + 6) → K s2 x) ∧ (¬ r = r2 → (0 : Int32) = nI 1)) (fun r s' h => ⟨fun _ x hx => by rw [hx]; exact hK s' h, fun q => absurd (rfl) q⟩)
theorem lc_1842 {N L k i : Nat} {xs : Nat → Int32} {s : Sx} {K : Sx → Int32 → Prop} (hN : 20000 ≤ N) (hk : k ≤ 600) (hI : Inv k s) (hi : i + 5 < L) (hL : L ≤ 3072) (hK : ∀ s', Inv (k + 1) s' → K s' (nI (i + 6))) : w_L_law_1842 N L xs K s (nI i) := by
  have e : ∀ j, nI i + nI j = nI (i + j) := fun j => nI_add i j
  simp only [w_L_law_1842, show (1 : Int32) = nI 1 from rfl, show (2 : Int32) = nI 2 from rfl, show (3 : Int32) = nI 3 from rfl, show (4 : Int32) = nI 4 from rfl, show (5 : Int32) = nI 5 from rfl, show (6 : Int32) = nI 6 from rfl, e, true_implies, false_implies, implies_true, not_true_eq_false, not_false_eq_true, not_true, not_false_iff, and_true, true_and, and_false, false_and, true_or, or_true, i1n0, i0e0]
  exact cs_trace hN hk hI (fun r r2 s2 => (r = r2 → ∀ x : Int32, x = nI (i + 6) → K s2 x) ∧ (¬ r = r2 → (0 : Int32) = nI 1)) (fun r s' h => ⟨fun _ x hx => by rw [hx]; exact hK s' h, fun q => absurd (rfl) q⟩)
theorem lc_1855 {N L k i : Nat} {xs : Nat → Int32} {s : Sx} {K : Sx → Int32 → Prop} (hN : 20000 ≤ N) (hk : k ≤ 600) (hI : Inv k s) (hi : i + 5 < L) (hL : L ≤ 3072) (hK : ∀ s', Inv (k + 1) s' → K s' (nI (i + 6))) : w_L_law_1855 N L xs K s (nI i) := by
  have e : ∀ j, nI i + nI j = nI (i + j) := fun j => nI_add i j
  simp only [w_L_law_1855, show (1 : Int32) = nI 1 from rfl, show (2 : Int32) = nI 2 from rfl, show (3 : Int32) = nI 3 from rfl, show (4 : Int32) = nI 4 from rfl, show (5 : Int32) = nI 5 from rfl, show (6 : Int32) = nI 6 from rfl, e, true_implies, false_implies, implies_true, not_true_eq_false, not_false_eq_true, not_true, not_false_iff, and_true, true_and, and_false, false_and, true_or, or_true, i1n0, i0e0]
  exact cs_fault hN hk hI (fun r r2 s2 => (r = r2 → ∀ x : Int32, x = nI (i + 6) → K s2 x) ∧ (¬ r = r2 → (0 : Int32) = nI 1)) (fun r s' h => ⟨fun _ x hx => by rw [hx]; exact hK s' h, fun q => absurd (rfl) q⟩)
theorem lc_1868 {N L k i : Nat} {xs : Nat → Int32} {s : Sx} {K : Sx → Int32 → Prop} (hN : 20000 ≤ N) (hk : k ≤ 600) (hI : Inv k s) (hi : i + 5 < L) (hL : L ≤ 3072) (hK : ∀ s', Inv (k + 1) s' → K s' (nI (i + 6))) : w_L_law_1868 N L xs K s (nI i) := by
  have e : ∀ j, nI i + nI j = nI (i + j) := fun j => nI_add i j
  have v1 : vp_in (nI (i + 1)) L := vp_in_nI (by omega) (by omega)
  simp only [w_L_law_1868, show (1 : Int32) = nI 1 from rfl, show (2 : Int32) = nI 2 from rfl, show (3 : Int32) = nI 3 from rfl, show (4 : Int32) = nI 4 from rfl, show (5 : Int32) = nI 5 from rfl, show (6 : Int32) = nI 6 from rfl, e, v1, true_implies, false_implies, implies_true, not_true_eq_false, not_false_eq_true, not_true, not_false_iff, and_true, true_and, and_false, false_and, true_or, or_true, i1n0, i0e0]
  exact cs_many hN hk hI _ (fun r r2 s2 => (r = r2 → ∀ x : Int32, x = nI (i + 6) → K s2 x) ∧ (¬ r = r2 → (0 : Int32) = nI 1)) (fun r s' h => ⟨fun _ x hx => by rw [hx]; exact hK s' h, fun q => absurd (rfl) q⟩)
theorem law_loop {N L : Nat} {xs : Nat → Int32} (hcall : HC) (hN : 20000 ≤ N) (hL : L ≤ 3072) : ∀ m i k fuel s, L ≤ i + 6 * m → m < fuel → k + m ≤ 600 → i < 5000 → Inv k s → w_L_law_18 N L xs fuel s (nI i) := by
  intro m
  induction m with
  | zero =>
    intro i k fuel s h1 h2 h3 h4 hI
    obtain ⟨fu, rfl⟩ : ∃ g, fuel = g + 1 := ⟨fuel - 1, by omega⟩
    unfold w_L_law_18
    refine ⟨fun _ => rfl, fun q => ?_⟩
    exfalso
    apply q
    rw [lt_, show (6 : Int32) = nI 6 from rfl, pk_sub_toInt (by omega) (by decide), nI_toInt (by omega)]
    omega
  | succ m ih =>
    intro i k fuel s h1 h2 h3 h4 hI
    obtain ⟨fu, rfl⟩ : ∃ g, fuel = g + 1 := ⟨fuel - 1, by omega⟩
    unfold w_L_law_18
    refine ⟨fun _ => rfl, fun q => ?_⟩
    rw [lt_, show (6 : Int32) = nI 6 from rfl, pk_sub_toInt (by omega) (by decide), nI_toInt (by omega)] at q
    have hK : ∀ s', Inv (k + 1) s' → w_L_law_18 N L xs fu s' (nI (i + 6)) := fun s' h => ih (i + 6) (k + 1) fu s' (by omega) (by omega) (by omega) (by omega) h
    refine ⟨vp_in_nI (by omega) (by omega), fun x_3 _ => ?_⟩
    exact ⟨fun _ => lc_232 hN (by omega) hI (by omega) hL hK, fun _ => ⟨fun _ => lc_275 hN (by omega) hI (by omega) hL hK, fun _ => ⟨fun _ => lc_288 hN (by omega) hI (by omega) hL hK, fun _ => ⟨fun _ => lc_351 hN (by omega) hI (by omega) hL hK, fun _ => ⟨fun _ => lc_384 hN (by omega) hI (by omega) hL hK, fun _ => ⟨fun _ => lc_417 hN (by omega) hI (by omega) hL hK, fun _ => ⟨fun _ => lc_440 hN (by omega) hI (by omega) hL hK, fun _ => ⟨fun _ => lc_503 hN (by omega) hI (by omega) hL hK, fun _ => ⟨fun _ => lc_536 hN (by omega) hI (by omega) hL hK, fun _ => ⟨fun _ => lc_569 hN (by omega) hI (by omega) hL hK, fun _ => ⟨fun _ => lc_622 hN (by omega) hI (by omega) hL hK, fun _ => ⟨fun _ => lc_675 hN (by omega) hI (by omega) hL hK, fun _ => ⟨fun _ => lc_708 hN (by omega) hI (by omega) hL hK, fun _ => ⟨fun _ => lc_741 hN (by omega) hI (by omega) hL hK, fun _ => ⟨fun _ => lc_774 hN (by omega) hI (by omega) hL hK, fun _ => ⟨fun _ => lc_817 hN (by omega) hI (by omega) hL hK, fun _ => ⟨fun _ => lc_870 hN (by omega) hI (by omega) hL hK, fun _ => ⟨fun _ => lc_913 hN (by omega) hI (by omega) hL hK, fun _ => ⟨fun _ => lc_956 hN (by omega) hI (by omega) hL hK, fun _ => ⟨fun _ => lc_1019 hN (by omega) hI (by omega) hL hK, fun _ => ⟨fun _ => lc_1032 hN (by omega) hI (by omega) hL hK, fun _ => ⟨fun _ => lc_1065 hN (by omega) hI (by omega) hL hK, fun _ => ⟨fun _ => lc_1108 hN (by omega) hI (by omega) hL hK, fun _ => ⟨fun _ => lc_1142 hN (by omega) hI (by omega) hL hK, fun _ => ⟨fun _ => lc_1165 hN (by omega) hI (by omega) hL hK, fun _ => ⟨fun _ => lc_1218 hN (by omega) hI (by omega) hL hK, fun _ => ⟨fun _ => lc_1251 hN (by omega) hI (by omega) hL hK, fun _ => ⟨fun _ => lc_1285 hN (by omega) hI (by omega) hL hK, fun _ => ⟨fun _ => lc_1338 hN (by omega) hI (by omega) hL hK, fun _ => ⟨fun _ => lc_1371 hN (by omega) hI (by omega) hL hK, fun _ => ⟨fun _ => lc_1394 hcall hN (by omega) hI (by omega) hL hK, fun _ => ⟨fun _ => lc_1417 hN (by omega) hI (by omega) hL hK, fun _ => ⟨fun _ => lc_1486 hN (by omega) hI (by omega) hL hK, fun _ => ⟨fun _ => lc_1510 hN (by omega) hI (by omega) hL hK, fun _ => ⟨fun _ => lc_1564 hN (by omega) hI (by omega) hL hK, fun _ => ⟨fun _ => lc_1577 hN (by omega) hI (by omega) hL hK, fun _ => ⟨fun _ => lc_1610 hN (by omega) hI (by omega) hL hK, fun _ => ⟨fun _ => lc_1653 hN (by omega) hI (by omega) hL hK, fun _ => ⟨fun _ => lc_1676 hN (by omega) hI (by omega) hL hK, fun _ => ⟨fun _ => lc_1719 hN (by omega) hI (by omega) hL hK, fun _ => ⟨fun _ => lc_1763 hN (by omega) hI (by omega) hL hK, fun _ => ⟨fun _ => lc_1786 hN (by omega) hI (by omega) hL hK, fun _ => ⟨fun _ => lc_1809 hN (by omega) hI (by omega) hL hK, fun _ => ⟨fun _ => lc_1842 hN (by omega) hI (by omega) hL hK, fun _ => ⟨fun _ => lc_1855 hN (by omega) hI (by omega) hL hK, fun _ => ⟨fun _ => lc_1868 hN (by omega) hI (by omega) hL hK, fun _ => fun x hx => by rw [hx, show (6 : Int32) = nI 6 from rfl, nI_add]; exact hK s hI.up⟩⟩⟩⟩⟩⟩⟩⟩⟩⟩⟩⟩⟩⟩⟩⟩⟩⟩⟩⟩⟩⟩⟩⟩⟩⟩⟩⟩⟩⟩⟩⟩⟩⟩⟩⟩⟩⟩⟩⟩⟩⟩⟩⟩⟩⟩
