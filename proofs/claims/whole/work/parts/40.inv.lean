/-! HALF TWO: the calls' predicates alone. -/
def b2 (c : Prop) [Decidable c] : Int32 := if c then 1 else 0
theorem b2_0 {c : Prop} [Decidable c] : (b2 c = 0) = ¬ c := by unfold b2; by_cases h : c <;> simp [h]
theorem b2_1 {c : Prop} [Decidable c] : (b2 c = 1) = c := by unfold b2; by_cases h : c <;> simp [h]
theorem b2_z {c : Prop} [Decidable c] : (b2 c = 0 ∨ b2 c = 1) = True := by unfold b2; by_cases h : c <;> simp [h]
theorem br_ {c A B : Prop} [Decidable c] : ((c → A) ∧ (¬ c → B)) = (if c then A else B) := by by_cases h : c <;> simp [h]
/-- x in lo .. hi -/
def wi (x lo hi : Int32) : Prop := lo ≤ x ∧ x ≤ hi
theorem wi_i {x lo hi : Int32} : wi x lo hi ↔ lo.toInt ≤ x.toInt ∧ x.toInt ≤ hi.toInt := by unfold wi; rw [Int32.le_iff_toInt_le, Int32.le_iff_toInt_le]
noncomputable def wd (x lo hi : Int32) : Decidable (wi x lo hi) := Classical.propDecidable _
theorem wi_eq (N : Nat) (x0 x1 x2 : Int32) (s : Sx) (post : Int32 → Sx → Prop) : w_X11_isWithin N x0 x1 x2 s post = ((wi x0 x1 x2 → post 1 s) ∧ (¬ wi x0 x1 x2 → post 0 s)) := by
  unfold w_X11_isWithin wi
  by_cases h1 : x0 < x1
  · have h2 : ¬ x1 ≤ x0 := by rw [Int32.lt_iff_toInt_lt] at h1; rw [Int32.le_iff_toInt_le]; omega
    simp [h1, h2]
  · have h2 : x1 ≤ x0 := by rw [Int32.lt_iff_toInt_lt] at h1; rw [Int32.le_iff_toInt_le]; omega
    by_cases h3 : x2 < x0
    · have h4 : ¬ x0 ≤ x2 := by rw [Int32.lt_iff_toInt_lt] at h3; rw [Int32.le_iff_toInt_le]; omega
      simp [h1, h2, h3, h4]
    · have h4 : x0 ≤ x2 := by rw [Int32.lt_iff_toInt_lt] at h3; rw [Int32.le_iff_toInt_le]; omega
      simp [h1, h2, h3, h4]
theorem wm_eq (N : Nat) (x0 x1 x2 : Int32) (s : Sx) (post : Int32 → Sx → Prop) : w_X12_within N x0 x1 x2 s post = ((wi x0 x1 x2 → post 1 s) ∧ (¬ wi x0 x1 x2 → post 0 s)) := wi_eq N x0 x1 x2 s post
