/-! places: the sets of places -/
def bt (t p : Nat) : Nat := t / 2 ^ p % 2
def bc (t : Nat) : Nat := bt t 0 + bt t 1 + bt t 2 + bt t 3 + bt t 4 + bt t 5 + bt t 6 + bt t 7
theorem bc_or : ∀ t, t < 256 → ∀ p, p < 8 → bt t p = 0 → bc (t ||| 2 ^ p) = bc t + 1 ∧ t ||| 2 ^ p < 256 ∧ t < t ||| 2 ^ p := by decide +kernel
theorem bt_01 (t p : Nat) : bt t p = 0 ∨ bt t p = 1 := by unfold bt; omega
theorem bc_le (t : Nat) : bc t ≤ 8 := by
  unfold bc
  rcases bt_01 t 0 with h0 | h0 <;> rcases bt_01 t 1 with h1 | h1 <;> rcases bt_01 t 2 with h2 | h2 <;> rcases bt_01 t 3 with h3 | h3 <;> rcases bt_01 t 4 with h4 | h4 <;> rcases bt_01 t 5 with h5 | h5 <;> rcases bt_01 t 6 with h6 | h6 <;> rcases bt_01 t 7 with h7 | h7 <;> omega
def bci (x : Int32) : Int32 :=
  let a := x - (((x.toUInt32 >>> ((1 : Int32).toUInt32 &&& Int32.toUInt32 31)).toInt32) &&& 1431655765)
  let b := (a &&& 858993459) + (((a.toUInt32 >>> ((2 : Int32).toUInt32 &&& Int32.toUInt32 31)).toInt32) &&& 858993459)
  let c := (b + ((b.toUInt32 >>> ((4 : Int32).toUInt32 &&& Int32.toUInt32 31)).toInt32)) &&& 252645135
  let d := c + ((c.toUInt32 >>> ((8 : Int32).toUInt32 &&& Int32.toUInt32 31)).toInt32)
  let e := d + ((d.toUInt32 >>> ((16 : Int32).toUInt32 &&& Int32.toUInt32 31)).toInt32)
  e &&& 63
theorem bci_e : ∀ t, t < 256 → bci (nI t) = nI (bc t) := by decide +kernel
theorem bic_eq {N t : Nat} {s : Sx} {post : Int32 → Sx → Prop} (ht : t < 256) : w_J6_bitCount_0f7a4 N (nI t) s post = post (nI (bc t)) s := by
  rw [← bci_e t ht]
  simp only [w_J6_bitCount_0f7a4, forall_eq]
  rfl
theorem sh_bt : ∀ t, t < 256 → ∀ p, p < 8 → (nI t >>> (nI p &&& 31)) &&& 1 = nI (bt t p) := by decide +kernel
theorem or_bt : ∀ t, t < 256 → ∀ p, p < 8 → nI t ||| (1 <<< (nI p &&& 31)) = nI (t ||| 2 ^ p) := by decide +kernel
theorem one_sh : ∀ n, n < 9 → ((1 : Int32) <<< (nI n &&& 31)) - 1 = nI (2 ^ n) + (-1) := by decide +kernel
theorem bo_eq {N t : Nat} {s : Sx} {post : Int32 → Sx → Prop} (hN : 20000 ≤ N) (ht : t < 256) (hp : post (nI (bc t)) s) : w_X12_bitsOf N (nI t) s post := by
  have h : ∀ i, i < 8 → (nI t >>> (nI i &&& 31)) &&& 1 = nI (bt t i) := sh_bt t ht
  have l : ∀ m i fuel, i + m = 8 → m < fuel → w_X12_bitsOf_4 N post fuel s (nI t) (nI (sN (bt t) i)) (nI i) := by
    intro m
    induction m with
    | zero =>
      intro i f h1 h2
      obtain ⟨f, rfl⟩ : ∃ g, f = g + 1 := ⟨f - 1, by omega⟩
      have hi : i = 8 := by omega
      subst hi
      simp only [w_X12_bitsOf_4, show (8 : Int32) = nI 8 from rfl, nle (show 8 < 2 ^ 31 by omega) (show 8 < 2 ^ 31 by omega), Nat.le_refl, true_implies, false_implies, implies_true, not_true_eq_false, not_false_eq_true, not_true, not_false_iff, and_true, true_and, and_false, false_and, true_or, or_true, i1n0, i0e0]
      have : sN (bt t) 8 = bc t := by unfold bc; simp only [sN]; omega
      rw [this]
      exact hp
    | succ m ih =>
      intro i f h1 h2
      obtain ⟨f, rfl⟩ : ∃ g, f = g + 1 := ⟨f - 1, by omega⟩
      simp only [w_X12_bitsOf_4, show (8 : Int32) = nI 8 from rfl, nle (show 8 < 2 ^ 31 by omega) (show i < 2 ^ 31 by omega), show ¬ 8 ≤ i by omega, true_implies, false_implies, implies_true, not_true_eq_false, not_false_eq_true, not_true, not_false_iff, and_true, true_and, and_false, false_and, true_or, or_true, i1n0, i0e0, forall_eq, nI_1, h i (by omega), nI_add]
      exact ih (i + 1) f (by omega) (by omega)
  exact l 8 0 N rfl (by omega)
def omx : Option Int → Option Int → Option Int
  | none, b => b
  | some a, none => some a
  | some a, some b => some (if a < b then b else a)
def mx (f : Nat → Option Int) : Nat → Option Int
  | 0 => none
  | n + 1 => omx (mx f n) (f n)
theorem mx_s (f : Nat → Option Int) (n : Nat) : mx f (n + 1) = omx (mx f n) (f n) := rfl
theorem mx_cong {f g : Nat → Option Int} : ∀ {n}, (∀ i, i < n → f i = g i) → mx f n = mx g n
  | 0, _ => rfl
  | n + 1, h => by rw [mx_s, mx_s, mx_cong (fun i hi => h i (by omega)), h n (by omega)]
theorem mx_some {f : Nat → Option Int} {v : Int} : ∀ {n}, mx f n = some v → ∃ p, p < n ∧ f p = some v
  | 0, h => by simp [mx] at h
  | n + 1, h => by
    rw [mx_s] at h
    rcases h1 : mx f n with _ | a
    · rw [h1] at h
      exact ⟨n, by omega, h⟩
    · rcases h2 : f n with _ | b
      · rw [h1, h2] at h
        obtain ⟨p, hp, e⟩ := mx_some (h1.trans h)
        exact ⟨p, by omega, e⟩
      · rw [h1, h2] at h
        simp only [omx] at h
        by_cases c : a < b
        · rw [if_pos c] at h
          exact ⟨n, by omega, h2.trans h⟩
        · rw [if_neg c] at h
          obtain ⟨p, hp, e⟩ := mx_some (h1.trans h)
          exact ⟨p, by omega, e⟩
def mvf (s : Sx) (cnt np : Nat) : Nat → Nat → Option Int
  | 0, _ => none
  | n + 1, t => if bc t = cnt then some 0 else mx (fun p => if s.1 0 38 p = 0 ∨ bt t p = 1 then none else (mvf s cnt np n (t ||| 2 ^ p)).map (fun v => (gn s (bc t) p).toInt + v)) np
def mv (s : Sx) (cnt np t : Nat) : Option Int := mvf s cnt np (9 - bc t) t
def fr (s : Sx) (cnt np t p : Nat) : Option Int := if s.1 0 38 p = 0 ∨ bt t p = 1 then none else (mv s cnt np (t ||| 2 ^ p)).map (fun v => (gn s (bc t) p).toInt + v)
theorem mv_0 {s : Sx} {cnt np t : Nat} (h : bc t = cnt) : mv s cnt np t = some 0 := by
  unfold mv
  rw [show 9 - bc t = (8 - bc t) + 1 by have := bc_le t; omega]
  exact if_pos h
theorem mv_s {s : Sx} {cnt np t : Nat} (ht : t < 256) (hn : np ≤ 8) (h : ¬ bc t = cnt) : mv s cnt np t = mx (fr s cnt np t) np := by
  unfold mv
  rw [show 9 - bc t = (8 - bc t) + 1 by have := bc_le t; omega]
  conv => lhs; unfold mvf
  rw [if_neg h]
  refine mx_cong (fun p hp => ?_)
  unfold fr mv
  by_cases c : s.1 0 38 p = 0 ∨ bt t p = 1
  · rw [if_pos c, if_pos c]
  · rw [if_neg c, if_neg c]
    have h0 : bt t p = 0 := by rcases bt_01 t p with q | q; exact q; exact absurd (Or.inr q) c
    rw [(bc_or t ht p (by omega) h0).1, show 9 - (bc t + 1) = 8 - bc t by omega]
theorem ab_i {a b : Int32} (ha : wi a 0 40) (hb : wi b 0 40) : 0 ≤ (ab (a - b)).toInt ∧ (ab (a - b)).toInt ≤ 40 := by
  obtain ⟨x, hx, rfl⟩ := wi_n (n := 40) (by decide) ha
  obtain ⟨y, hy, rfl⟩ := wi_n (n := 40) (by decide) hb
  have hs := pk_sub_toInt (a := x) (b := y) (by omega) (by omega)
  unfold ab
  by_cases h : 0 ≤ nI x - nI y
  · rw [if_pos h]
    rw [le_, show (0 : Int32).toInt = 0 from by decide] at h
    omega
  · rw [if_neg h]
    rw [le_, show (0 : Int32).toInt = 0 from by decide] at h
    rw [Int32.toInt_neg, hs, Int.bmod_eq_of_le] <;> omega
theorem gn_i {s : Sx} (hC : IC s) (hL : IL s) (c p : Nat) : -80 ≤ (gn s c p).toInt ∧ (gn s c p).toInt ≤ 999 := by
  obtain ⟨c1, c2, c3, c4, c5, c6, r1, r2, -⟩ := hC
  obtain ⟨e1, e2, e3, e4, e5, e6, l1, l2, l3, l4⟩ := hL
  have a1 := ab_i (r1 c) (l1 p)
  have a2 := ab_i (r2 c) (l2 p)
  have a3 := wi_i.mp (l3 p)
  rw [show (0 : Int32).toInt = 0 from by decide, show (999 : Int32).toInt = 999 from by decide] at a3
  unfold gn
  have h1 : (ab (s.1 0 2 c - s.1 0 35 p) + ab (s.1 0 3 c - s.1 0 36 p)).toInt = (ab (s.1 0 2 c - s.1 0 35 p)).toInt + (ab (s.1 0 3 c - s.1 0 36 p)).toInt := by
    rw [Int32.toInt_add, Int.bmod_eq_of_le] <;> omega
  rw [Int32.toInt_sub, h1, Int.bmod_eq_of_le] <;> omega
theorem mvf_i {s : Sx} {cnt np : Nat} (hC : IC s) (hL : IL s) : ∀ n t v, mvf s cnt np n t = some v → -999 * (n : Int) ≤ v ∧ v ≤ 999 * (n : Int)
  | 0, _, _, h => by simp [mvf] at h
  | n + 1, t, v, h => by
    unfold mvf at h
    by_cases c : bc t = cnt
    · rw [if_pos c] at h
      injection h with h
      omega
    · rw [if_neg c] at h
      obtain ⟨p, hp, e⟩ := mx_some h
      by_cases c2 : s.1 0 38 p = 0 ∨ bt t p = 1
      · rw [if_pos c2] at e; simp at e
      · rw [if_neg c2] at e
        rcases hm : mvf s cnt np n (t ||| 2 ^ p) with _ | w
        · rw [hm] at e; simp at e
        · rw [hm] at e
          simp only [Option.map_some, Option.some.injEq] at e
          have := mvf_i hC hL n _ w hm
          have := gn_i hC hL (bc t) p
          omega
def sml : Option Int → Prop
  | none => True
  | some v => -20000 ≤ v ∧ v ≤ 20000
theorem mv_i {s : Sx} {cnt np : Nat} (hC : IC s) (hL : IL s) (t : Nat) : sml (mv s cnt np t) := by
  unfold mv
  rcases h : mvf s cnt np (9 - bc t) t with _ | v
  · trivial
  · have := mvf_i hC hL _ _ _ h
    show -20000 ≤ v ∧ v ≤ 20000
    omega
theorem fr_i {s : Sx} {cnt np : Nat} (hC : IC s) (hL : IL s) (t p : Nat) : sml (fr s cnt np t p) := by
  unfold fr mv
  by_cases c2 : s.1 0 38 p = 0 ∨ bt t p = 1
  · rw [if_pos c2]; trivial
  · rw [if_neg c2]
    rcases hm : mvf s cnt np (9 - bc (t ||| 2 ^ p)) (t ||| 2 ^ p) with _ | w
    · trivial
    · have := mvf_i hC hL _ _ w hm
      have := gn_i hC hL (bc t) p
      show -20000 ≤ (gn s (bc t) p).toInt + w ∧ (gn s (bc t) p).toInt + w ≤ 20000
      omega
theorem sml_omx {a b : Option Int} (ha : sml a) (hb : sml b) : sml (omx a b) := by
  rcases a with _ | a <;> rcases b with _ | b
  · trivial
  · exact hb
  · exact ha
  · show -20000 ≤ (if a < b then b else a) ∧ (if a < b then b else a) ≤ 20000
    by_cases c : a < b
    · rw [if_pos c]; exact hb
    · rw [if_neg c]; exact ha
theorem sml_mx {f : Nat → Option Int} (h : ∀ i, sml (f i)) : ∀ n, sml (mx f n)
  | 0 => trivial
  | n + 1 => sml_omx (sml_mx h n) (h n)
def e3 : Option Int → Int32
  | none => (-2147483648)
  | some v => Int32.ofInt v
def e6 : Option Int → Int64
  | none => (-9223372036854775808)
  | some v => Int64.ofInt v
theorem o3 {v : Int} (h : -20000 ≤ v ∧ v ≤ 20000) : (Int32.ofInt v).toInt = v := Int32.toInt_ofInt_of_le (by omega) (by omega)
theorem o6 {v : Int} (h : -20000 ≤ v ∧ v ≤ 20000) : (Int64.ofInt v).toInt = v := Int64.toInt_ofInt_of_le (by omega) (by omega)
theorem e3_n {a : Option Int} (h : sml a) : (e3 a = (-2147483648)) = (a = none) := by
  rcases a with _ | v
  · simp [e3]
  · have : ¬ Int32.ofInt v = (-2147483648) := fun q => by
      have := congrArg Int32.toInt q
      rw [o3 h, show (-2147483648 : Int32).toInt = -2147483648 from by decide] at this
      have h2 : -20000 ≤ v ∧ v ≤ 20000 := h
      omega
    simp [e3, this]
theorem e6_n {a : Option Int} (h : sml a) : (e6 a = (-9223372036854775808)) = (a = none) := by
  rcases a with _ | v
  · simp [e6]
  · have : ¬ Int64.ofInt v = (-9223372036854775808) := fun q => by
      have := congrArg Int64.toInt q
      rw [o6 h, show (-9223372036854775808 : Int64).toInt = -9223372036854775808 from by decide] at this
      have h2 : -20000 ≤ v ∧ v ≤ 20000 := h
      omega
    simp [e6, this]
theorem e3_inj {a b : Option Int} (ha : sml a) (hb : sml b) : (e3 a = e3 b) = (a = b) := by
  rcases b with _ | w
  · exact e3_n ha
  · rcases a with _ | v
    · have := e3_n hb
      rw [show (e3 none = e3 (some w)) = (e3 (some w) = (-2147483648)) from propext ⟨fun q => q.symm, fun q => q.symm⟩, this]
      simp
    · refine propext ⟨fun q => ?_, fun q => by rw [q]⟩
      have := congrArg Int32.toInt q
      rw [show (e3 (some v)).toInt = v from o3 ha, show (e3 (some w)).toInt = w from o3 hb] at this
      rw [this]
theorem e3_max {N : Nat} {a b : Option Int} {s : Sx} {post : Int32 → Sx → Prop} (ha : sml a) (hb : sml b) : w_J9_max_7cf53 N (e3 a) (e3 b) s post = post (e3 (omx a b)) s := by
  unfold w_J9_max_7cf53
  have hm : (-2147483648 : Int32).toInt = -2147483648 := by decide
  rcases a with _ | a <;> rcases b with _ | b
  · have : ¬ e3 none < e3 none := by rw [lt_]; omega
    simp only [this, true_implies, false_implies, implies_true, not_true_eq_false, not_false_eq_true, not_true, not_false_iff, and_true, true_and, and_false, false_and, true_or, or_true, i1n0, i0e0]
    rfl
  · have hb2 : -20000 ≤ b ∧ b ≤ 20000 := hb
    have : e3 none < e3 (some b) := by rw [lt_, show (e3 (some b)).toInt = b from o3 hb, show (e3 none).toInt = -2147483648 from hm]; omega
    simp only [this, true_implies, false_implies, implies_true, not_true_eq_false, not_false_eq_true, not_true, not_false_iff, and_true, true_and, and_false, false_and, true_or, or_true, i1n0, i0e0]
    rfl
  · have ha2 : -20000 ≤ a ∧ a ≤ 20000 := ha
    have : ¬ e3 (some a) < e3 none := by rw [lt_, show (e3 (some a)).toInt = a from o3 ha, show (e3 none).toInt = -2147483648 from hm]; omega
    simp only [this, true_implies, false_implies, implies_true, not_true_eq_false, not_false_eq_true, not_true, not_false_iff, and_true, true_and, and_false, false_and, true_or, or_true, i1n0, i0e0]
    rfl
  · have : (e3 (some a) < e3 (some b)) = (a < b) := by rw [lt_, show (e3 (some a)).toInt = a from o3 ha, show (e3 (some b)).toInt = b from o3 hb]
    rw [this]
    by_cases c : a < b
    · simp only [c, true_implies, false_implies, implies_true, not_true_eq_false, not_false_eq_true, not_true, not_false_iff, and_true, true_and, and_false, false_and, true_or, or_true, i1n0, i0e0, omx, if_true]
    · simp only [c, true_implies, false_implies, implies_true, not_true_eq_false, not_false_eq_true, not_true, not_false_iff, and_true, true_and, and_false, false_and, true_or, or_true, i1n0, i0e0, omx, if_false]
theorem gn3 (g : Int32) (v : Int) : g + Int32.ofInt v = e3 (some (g.toInt + v)) := by
  show _ = Int32.ofInt _
  rw [Int32.ofInt_add, Int32.ofInt_toInt]
theorem gn6 (g : Int32) (v : Int) : g.toInt64 + Int64.ofInt v = e6 (some (g.toInt + v)) := by
  show _ = Int64.ofInt _
  rw [Int64.ofInt_add]
  congr 1
