/-! fires: the queue -/
def up (q : Nat → Nat) (i v : Nat) : Nat → Nat := fun j => if j = i then v else q j
theorem up_s {q : Nat → Nat} {i v : Nat} : up q i v i = v := if_pos rfl
theorem up_n {q : Nat → Nat} {i v j : Nat} (h : j ≠ i) : up q i v j = q j := if_neg h
theorem sN_up (g q : Nat → Nat) {i v : Nat} : ∀ {n}, i < n → sN (fun j => g (up q i v j)) n + g (q i) = sN (fun j => g (q j)) n + g v
  | n + 1, h => by
    rw [sN_s, sN_s]
    by_cases e : i = n
    · subst e
      rw [up_s, sN_cong (f := fun j => g (up q i v j)) (g := fun j => g (q j)) (fun j hj => by rw [up_n (by omega)])]
      omega
    · rw [up_n (show n ≠ i by omega)]
      have := sN_up g q (i := i) (v := v) (n := n) (by omega)
      omega
def ins (hr : Nat → Nat) (c : Nat) : Nat → (Nat → Nat) → (Nat → Nat)
  | 0, q => up q 0 c
  | k + 1, q => if hr (q k) ≤ hr c then up q (k + 1) c else ins hr c k (up q (k + 1) (q k))
theorem ins_sum (hr : Nat → Nat) (c : Nat) (g : Nat → Nat) {n : Nat} : ∀ k q, k < n → sN (fun j => g (ins hr c k q j)) n + g (q k) = sN (fun j => g (q j)) n + g c
  | 0, q, h => sN_up g q h
  | k + 1, q, h => by
    unfold ins
    by_cases e : hr (q k) ≤ hr c
    · rw [if_pos e]; exact sN_up g q h
    · rw [if_neg e]
      have h1 := ins_sum hr c g (n := n) k (up q (k + 1) (q k)) (by omega)
      have h2 := sN_up g q (i := k + 1) (v := q k) h
      rw [up_n (by omega)] at h1
      omega
theorem ins_lt (hr : Nat → Nat) (c : Nat) {n B : Nat} (hc : c < B) : ∀ k q, k < n → (∀ i, i < n → i ≠ k → q i < B) → ∀ i, i < n → ins hr c k q i < B
  | 0, q, h, hq, i, hi => by
    show up q 0 c i < B
    by_cases e : i = 0
    · rw [e, up_s]; exact hc
    · rw [up_n e]; exact hq i hi e
  | k + 1, q, h, hq, i, hi => by
    unfold ins
    by_cases e : hr (q k) ≤ hr c
    · rw [if_pos e]
      by_cases e2 : i = k + 1
      · rw [e2, up_s]; exact hc
      · rw [up_n e2]; exact hq i hi e2
    · rw [if_neg e]
      refine ins_lt hr c hc k _ (by omega) (fun j hj hne => ?_) i hi
      by_cases e2 : j = k + 1
      · rw [e2, up_s]; exact hq k (by omega) (by omega)
      · rw [up_n e2]; exact hq j hj e2
/-- sorted, but for the hole at k -/
theorem ins_srt (hr : Nat → Nat) (c : Nat) {n : Nat} : ∀ k q, k < n → (∀ i j, i < j → j < n → i ≠ k → j ≠ k → hr (q i) ≤ hr (q j)) → (∀ j, k < j → j < n → hr c ≤ hr (q j)) → ∀ i j, i < j → j < n → hr (ins hr c k q i) ≤ hr (ins hr c k q j)
  | 0, q, h, hq, hc, i, j, hij, hj => by
    show hr (up q 0 c i) ≤ hr (up q 0 c j)
    rw [up_n (show j ≠ 0 by omega)]
    by_cases e : i = 0
    · rw [e, up_s]; exact hc j (by omega) hj
    · rw [up_n e]; exact hq i j hij hj e (by omega)
  | k + 1, q, h, hq, hc, i, j, hij, hj => by
    unfold ins
    by_cases e : hr (q k) ≤ hr c
    · rw [if_pos e]
      by_cases e2 : i = k + 1
      · rw [e2, up_s, up_n (by omega)]; exact hc j (by omega) hj
      · rw [up_n e2]
        by_cases e3 : j = k + 1
        · rw [e3, up_s]
          by_cases e4 : i = k
          · rw [e4]; exact e
          · exact Nat.le_trans (hq i k (by omega) (by omega) e2 (by omega)) e
        · rw [up_n e3]; exact hq i j hij hj e2 e3
    · rw [if_neg e]
      refine ins_srt hr c k _ (by omega) (fun a b hab hb ha hb2 => ?_) (fun b hb1 hb2 => ?_) i j hij hj
      · by_cases e2 : a = k + 1
        · rw [e2, up_s, up_n (by omega)]; exact hq k b (by omega) hb (by omega) (by omega)
        · rw [up_n e2]
          by_cases e3 : b = k + 1
          · rw [e3, up_s]; exact hq a k (by omega) (by omega) e2 (by omega)
          · rw [up_n e3]; exact hq a b hab hb e2 e3
      · by_cases e3 : b = k + 1
        · rw [e3, up_s]; omega
        · rw [up_n e3]; exact hc b (by omega) hb2
def que (hr : Nat → Nat) (q0 : Nat → Nat) : Nat → (Nat → Nat)
  | 0 => q0
  | c + 1 => ins hr c c (que hr q0 c)
theorem que_e (hr q0 : Nat → Nat) : ∀ n, (∀ g : Nat → Nat, sN (fun j => g (que hr q0 n j)) n = sN g n) ∧ (∀ i, i < n → que hr q0 n i < n) ∧ ∀ i j, i < j → j < n → hr (que hr q0 n i) ≤ hr (que hr q0 n j)
  | 0 => ⟨fun _ => rfl, fun i h => by omega, fun i j h1 h2 => by omega⟩
  | n + 1 => by
    obtain ⟨h1, h2, h3⟩ := que_e hr q0 n
    refine ⟨fun g => ?_, ?_, ?_⟩
    · have := ins_sum hr n g (n := n + 1) n (que hr q0 n) (by omega)
      have h4 := h1 g
      show sN (fun j => g (ins hr n n (que hr q0 n) j)) (n + 1) = sN g (n + 1)
      rw [sN_s (fun j => g (que hr q0 n j))] at this
      rw [sN_s g]
      omega
    · exact ins_lt hr n (by omega) n (que hr q0 n) (by omega) (fun i hi hne => by have := h2 i (by omega); omega)
    · exact ins_srt hr n n (que hr q0 n) (by omega) (fun i j hij hj hi hj2 => h3 i j hij (by omega)) (fun j h4 h5 => by omega)
/-- the crews of the goers that come by h -/
noncomputable def wh (hr cr : Nat → Nat) (G : Nat → Prop) (n h : Nat) : Nat := sN (fun c => @ite _ (G c ∧ hr c ≤ h) (pd _) (cr c) 0) n
noncomputable def hld (hr cr : Nat → Nat) (G : Nat → Prop) (n nd : Nat) : Nat := (frs (fun h => nd ≤ wh hr cr G n h) 24 0).getD 24
noncomputable def cm (cr : Nat → Nat) (G : Nat → Prop) (q : Nat → Nat) : Nat → Nat := sN (fun i => @ite _ (G (q i)) (pd _) (cr (q i)) 0)
theorem sN_mono {f g : Nat → Nat} : ∀ {n}, (∀ i, i < n → f i ≤ g i) → sN f n ≤ sN g n
  | 0, _ => Nat.le_refl _
  | n + 1, h => by rw [sN_s, sN_s]; have := sN_mono (n := n) (fun i hi => h i (by omega)); have := h n (by omega); omega
theorem sN_split {f : Nat → Nat} {k : Nat} : ∀ {n}, k ≤ n → sN f k ≤ sN f n
  | 0, h => by rw [show k = 0 by omega]; exact Nat.le_refl _
  | n + 1, h => by
    by_cases e : k = n + 1
    · rw [e]; exact Nat.le_refl _
    · rw [sN_s]; have := sN_split (f := f) (k := k) (n := n) (by omega); omega
theorem sN_z {f : Nat → Nat} {k : Nat} : ∀ {n}, k ≤ n → (∀ i, k ≤ i → i < n → f i = 0) → sN f n = sN f k
  | 0, h, _ => by rw [show k = 0 by omega]
  | n + 1, h, hz => by
    by_cases e : k = n + 1
    · rw [e]
    · rw [sN_s, sN_z (by omega) (fun i h1 h2 => hz i h1 (by omega)), hz n (by omega) (by omega)]; omega
/-- the first in the queue with whom there are enough comes at the hour that the reference looks for -/
theorem hld_y {hr cr : Nat → Nat} {G : Nat → Prop} {n nd k : Nat} {q0 : Nat → Nat} (hh : ∀ c, hr c < 24) (hk : k < n) (hG : G (que hr q0 n k)) (h1 : cm cr G (que hr q0 n) k < nd) (h2 : nd ≤ cm cr G (que hr q0 n) (k + 1)) : hld hr cr G n nd = hr (que hr q0 n k) := by
  obtain ⟨p1, p2, p3⟩ := que_e hr q0 n
  generalize hq : que hr q0 n = q at *
  have key : ∀ h, wh hr cr G n h = sN (fun i => @ite _ (G (q i) ∧ hr (q i) ≤ h) (pd _) (cr (q i)) 0) n := fun h => (p1 (fun c => @ite _ (G c ∧ hr c ≤ h) (pd _) (cr c) 0)).symm
  have a1 : nd ≤ wh hr cr G n (hr (q k)) := by
    rw [key]
    refine Nat.le_trans h2 (Nat.le_trans ?_ (sN_split (k := k + 1) (by omega)))
    refine sN_mono (fun i hi => ?_)
    by_cases g : G (q i)
    · rw [if_pos g, if_pos]
      · exact Nat.le_refl _
      · refine ⟨g, ?_⟩
        by_cases e : i = k
        · rw [e]; exact Nat.le_refl _
        · exact p3 i k (by omega) hk
    · rw [if_neg g]; omega
  have a2 : ∀ h, h < hr (q k) → ¬ nd ≤ wh hr cr G n h := fun h hlt => by
    rw [key, sN_z (k := k) (by omega) (fun i h3 h4 => if_neg (fun g => by
      have : hr (q k) ≤ hr (q i) := by
        by_cases e : i = k
        · rw [e]; exact Nat.le_refl _
        · exact p3 k i (by omega) h4
      omega))]
    have : sN (fun i => @ite _ (G (q i) ∧ hr (q i) ≤ h) (pd _) (cr (q i)) 0) k ≤ cm cr G q k := sN_mono (fun i hi => by
      by_cases g : G (q i)
      · rw [if_pos g]
        by_cases g2 : hr (q i) ≤ h
        · rw [if_pos ⟨g, g2⟩]; exact Nat.le_refl _
        · rw [if_neg (fun x => g2 x.2)]; omega
      · rw [if_neg g, if_neg (fun x => g x.1)]; exact Nat.le_refl _)
    omega
  obtain ⟨x, hx⟩ := frs_ex (c := fun h => nd ≤ wh hr cr G n h) (m := 24) (i := 0) (p := hr (q k)) (by omega) (by have := hh (q k); omega) a1
  obtain ⟨-, x1, x2⟩ := frs_some hx
  have x3 := frs_first hx
  unfold hld
  rw [hx]
  show x = _
  rcases Nat.lt_trichotomy x (hr (q k)) with h | h | h
  · exact absurd x2 (a2 x h)
  · exact h
  · exact absurd a1 (x3 _ (by omega) h)
theorem hld_n {hr cr : Nat → Nat} {G : Nat → Prop} {n nd : Nat} {q0 : Nat → Nat} (h1 : cm cr G (que hr q0 n) n < nd) : hld hr cr G n nd = 24 := by
  obtain ⟨p1, p2, p3⟩ := que_e hr q0 n
  unfold hld
  rcases hf : frs (fun h => nd ≤ wh hr cr G n h) 24 0 with _ | x
  · rfl
  · obtain ⟨-, -, x2⟩ := frs_some hf
    exfalso
    have : wh hr cr G n x ≤ cm cr G (que hr q0 n) n := by
      unfold cm
      rw [p1 (fun c => @ite _ (G c) (pd _) (cr c) 0)]
      exact sN_mono (fun i hi => by
        by_cases g : G i
        · rw [if_pos g]
          by_cases g2 : hr i ≤ x
          · rw [if_pos ⟨g, g2⟩]; exact Nat.le_refl _
          · rw [if_neg (fun x => g2 x.2)]; omega
        · rw [if_neg g, if_neg (fun x => g x.1)]; exact Nat.le_refl _)
    have x2' : nd ≤ wh hr cr G n x := x2
    omega
