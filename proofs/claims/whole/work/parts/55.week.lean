/-! a week -/
theorem nI_xor {a b : Nat} (ha : a < 2 ^ 31) (hb : b < 2 ^ 31) : nI a ^^^ nI b = nI (a ^^^ b) ∧ a ^^^ b < 2 ^ 31 := by
  have hl : a ^^^ b < 2 ^ 31 := Nat.xor_lt_two_pow ha hb
  refine ⟨Int32.toBitVec_inj.mp (BitVec.eq_of_toNat_eq ?_), hl⟩
  show ((nI a).toBitVec ^^^ (nI b).toBitVec).toNat = _
  rw [BitVec.toNat_xor, pk_tn (by omega), pk_tn (by omega), pk_tn (by omega)]
theorem rem_eq {N a b : Nat} {s : Sx} {post : Int32 → Sx → Prop} (ha : a < 2 ^ 31) (hb : b < 2 ^ 31) (hb0 : 1 ≤ b) : w_X11_remainder N (nI a) (nI b) s post = post (nI (a % b)) s := by
  obtain ⟨x1, x2⟩ := nI_xor ha hb
  have h0 : ¬ nI b = 0 := nI_ne0 (by omega) hb
  have h1 : (1 : Int32) ≤ nI b := nI_le (a := 1) hb0 hb
  simp only [w_X11_remainder, w_J9_floorMod_7cf53, h0, h1, x1, nI_pos' x2, true_implies, false_implies, implies_true, not_true_eq_false, not_false_eq_true, not_true, not_false_iff, and_true, true_and, and_false, false_and, true_or, or_true, i1n0, i0e0, forall_eq, pk_rem ha (show 0 < b by omega) hb]
def mh (s : Sx) (w : Nat) : Int32 := if s.1 3 w 2 < s.1 3 w 3 then s.1 3 w 2 else s.1 3 w 3
def dd (s : Sx) (q : Int32) (w : Nat) : Int32 := if s.1 3 w 1 - s.1 3 w 4 < mh s w * (4 - 2 * q) then s.1 3 w 1 - s.1 3 w 4 else mh s w * (4 - 2 * q)
def act (s : Sx) (w : Nat) : Prop := s.1 3 w 4 < s.1 3 w 1
def nfa (s : Sx) (q : Int32) (w : Nat) : Nat → Int32 := upd (upd (upd (upd (s.1 3 w) 4 (s.1 3 w 4 + dd s q w)) 5 (s.1 3 w 5 + (s.1 3 w 3 - mh s w) * 4)) 6 (s.1 3 w 6 + mh s w * (4 - (4 - 2 * q)))) 7 (s.1 3 w 7 + ((dd s q w + 9) / 10) * 10)
noncomputable def nf (s : Sx) (q : Int32) (w : Nat) : Nat → Int32 := @ite _ (act s w) (pd _) (nfa s q w) (s.1 3 w)
theorem nf_y {s : Sx} {q : Int32} {w : Nat} (h : act s w) : nf s q w = nfa s q w := if_pos h
theorem nf_no {s : Sx} {q : Int32} {w : Nat} (h : ¬ act s w) : nf s q w = s.1 3 w := if_neg h
noncomputable def sm (s : Sx) (q : Int32) : Nat → Int32
  | 0 => 0
  | n + 1 => sm s q n + @ite _ (act s n) (pd _) (dd s q n) 0
theorem sm_y {s : Sx} {q : Int32} {n : Nat} (h : act s n) : sm s q (n + 1) = sm s q n + dd s q n := by
  show sm s q n + _ = _
  rw [if_pos h]
theorem sm_n {s : Sx} {q : Int32} {n : Nat} (h : ¬ act s n) : sm s q (n + 1) = sm s q n := by
  show sm s q n + _ = _
  rw [if_neg h, Int32.add_zero]
def set3 (s : Sx) (g : Nat → Nat → Int32) : Sx := (fun k j => if k = 3 then g j else s.1 k j, s.2)
def set5 (s : Sx) (g : Nat → Nat → Int32) : Sx := (fun k j => if k = 5 then g j else s.1 k j, s.2)
theorem rd3_ (s : Sx) (g : Nat → Nat → Int32) (k j : Nat) : (set3 s g).1 k j = if k = 3 then g j else s.1 k j := rfl
theorem rd5_ (s : Sx) (g : Nat → Nat → Int32) (k j : Nat) : (set5 s g).1 k j = if k = 5 then g j else s.1 k j := rfl
theorem set3_1 (s : Sx) (g : Nat → Nat → Int32) (w i : Nat) (v : Int32) : setI (set3 s g) 3 w i v = set3 s (fun j => if j = w then upd (g w) i v else g j) := by
  refine Prod.ext ?_ rfl
  funext k j
  simp only [rdI, rd3_]
  by_cases h : k = 3
  · by_cases h2 : j = w <;> simp [h, h2]
  · simp [h]
theorem set5_1 (s : Sx) (g : Nat → Nat → Int32) (w i : Nat) (v : Int32) : setI (set5 s g) 5 w i v = set5 s (fun j => if j = w then upd (g w) i v else g j) := by
  refine Prod.ext ?_ rfl
  funext k j
  simp only [rdI, rd5_]
  by_cases h : k = 5
  · by_cases h2 : j = w <;> simp [h, h2]
  · simp [h]
theorem wc_loop {N n : Nat} {s S : Sx} {q : Int32} {post : Int32 → Sx → Prop} (e4 : S.2.2 4 = n) (e5 : S.2.2 5 = n) (hn : n ≤ 8) (h3 : S.1 3 = s.1 3) (hp : post (sm s q n) (set3 S (fun j => if j < n then nf s q j else s.1 3 j))) : ∀ m i fuel, i + m = 8 → m < fuel → w_X10_passWeek_41 N post fuel (set3 S (fun j => if j < i ∧ j < n then nf s q j else s.1 3 j)) q (sm s q (min i n)) 8 (nI i) := by
  intro m
  induction m with
  | zero =>
    intro i fuel f1 f2
    obtain ⟨f, rfl⟩ : ∃ f, fuel = f + 1 := ⟨fuel - 1, by omega⟩
    have : i = 8 := by omega
    subst this
    simp only [w_X10_passWeek_41, show (8 : Int32) = nI 8 from rfl, nle (show 8 < 2 ^ 31 by omega) (show 8 < 2 ^ 31 by omega), Nat.le_refl, true_implies, false_implies, implies_true, not_true_eq_false, not_false_eq_true, not_true, not_false_iff, and_true, true_and, and_false, false_and, true_or, or_true, i1n0, i0e0]
    rw [show min 8 n = n by omega, show (fun j => if j < 8 ∧ j < n then nf s q j else s.1 3 j) = (fun j => if j < n then nf s q j else s.1 3 j) from by
      funext j
      by_cases h : j < n
      · rw [if_pos ⟨by omega, h⟩, if_pos h]
      · rw [if_neg (fun q => h q.2), if_neg h]]
    exact hp
  | succ m ih =>
    intro i fuel f1 f2
    obtain ⟨f, rfl⟩ : ∃ f, fuel = f + 1 := ⟨fuel - 1, by omega⟩
    have hr := ih (i + 1) f (by omega) (by omega)
    have hv : vp_in (nI i) 8 := vp_in_nI (by omega) (by decide)
    by_cases hi : i < n
    case neg =>
      have e : (fun j => if j < i + 1 ∧ j < n then nf s q j else s.1 3 j) = (fun j => if j < i ∧ j < n then nf s q j else s.1 3 j) := by
        funext j
        by_cases h : j < i ∧ j < n
        · rw [if_pos h, if_pos (by omega)]
        · rw [if_neg h, if_neg (by omega)]
      rw [e, show min (i + 1) n = min i n by omega] at hr
      have hs : (set3 S (fun j => if j < i ∧ j < n then nf s q j else s.1 3 j)).2.2 5 = n := e5
      simp only [w_X10_passWeek_41, show (8 : Int32) = nI 8 from rfl, nle (show 8 < 2 ^ 31 by omega) (show i < 2 ^ 31 by omega), show ¬ 8 ≤ i by omega, true_implies, false_implies, implies_true, not_true_eq_false, not_false_eq_true, not_true, not_false_iff, and_true, true_and, and_false, false_and, true_or, or_true, i1n0, i0e0, hv, nI_clamp (show i < 2 ^ 31 by omega), hs, hi, forall_eq, nI_1]
      exact hr
    generalize hT : set3 S (fun j => if j < i ∧ j < n then nf s q j else s.1 3 j) = T
    have hs : T.2.2 5 = n := by rw [← hT]; exact e5
    have hs4 : T.2.2 4 = n := by rw [← hT]; exact e4
    have hc : T.1 3 i = s.1 3 i := by rw [← hT]; simp [rd3_]
    simp only [w_X10_passWeek_41, w_X9_passWeek, show (8 : Int32) = nI 8 from rfl, nle (show 8 < 2 ^ 31 by omega) (show i < 2 ^ 31 by omega), show ¬ 8 ≤ i by omega, true_implies, false_implies, implies_true, not_true_eq_false, not_false_eq_true, not_true, not_false_iff, and_true, true_and, and_false, false_and, true_or, or_true, i1n0, i0e0, hv, nI_clamp (show i < 2 ^ 31 by omega), hs, hs4, hi, forall_eq, nI_1, hc, rdI2, rdI, and_self, if_true, rdU, Nat.reduceEqDiff, if_false, w_J9_min_7cf53, br_]
    rw [show min i n = i by omega]
    rw [show min (i + 1) n = i + 1 by omega] at hr
    by_cases ha : act s i
    · have ha' : s.1 3 i 4 < s.1 3 i 1 := ha
      rw [sm_y ha] at hr
      have e : set3 S (fun j => if j < i + 1 ∧ j < n then nf s q j else s.1 3 j) = setI (setI (setI (setI T 3 i 4 (s.1 3 i 4 + dd s q i)) 3 i 5 (s.1 3 i 5 + (s.1 3 i 3 - mh s i) * 4)) 3 i 6 (s.1 3 i 6 + mh s i * (4 - (4 - 2 * q)))) 3 i 7 (s.1 3 i 7 + ((dd s q i + 9) / 10) * 10) := by
        rw [← hT, set3_1, set3_1, set3_1, set3_1]
        congr 1
        funext j
        by_cases hj : j = i
        · subst hj
          rw [if_pos ⟨by omega, hi⟩, nf_y ha]
          simp [nfa]
        · by_cases h : j < i ∧ j < n
          · rw [if_pos (by omega)]
            simp [hj, h]
          · rw [if_neg (by omega)]
            simp [hj, h]
      rw [e] at hr
      unfold dd mh at hr
      rw [if_pos ha']
      by_cases c1 : s.1 3 i 2 < s.1 3 i 3
      · simp only [c1, if_true] at hr ⊢
        by_cases c2 : s.1 3 i 1 - s.1 3 i 4 < s.1 3 i 2 * (4 - 2 * q)
        · simp only [c2, if_true] at hr ⊢
          exact hr
        · simp only [c2, if_false] at hr ⊢
          exact hr
      · simp only [c1, if_false] at hr ⊢
        by_cases c2 : s.1 3 i 1 - s.1 3 i 4 < s.1 3 i 3 * (4 - 2 * q)
        · simp only [c2, if_true] at hr ⊢
          exact hr
        · simp only [c2, if_false] at hr ⊢
          exact hr
    · have ha' : ¬ s.1 3 i 4 < s.1 3 i 1 := ha
      have e : set3 S (fun j => if j < i + 1 ∧ j < n then nf s q j else s.1 3 j) = T := by
        rw [← hT]
        congr 1
        funext j
        by_cases hj : j = i
        · subst hj
          rw [if_pos ⟨by omega, hi⟩, nf_no ha]
          simp
        · by_cases h : j < i ∧ j < n
          · rw [if_pos h, if_pos (by omega)]
          · rw [if_neg h, if_neg (by omega)]
      rw [e, sm_n ha] at hr
      rw [if_neg ha', Int32.add_zero]
      exact hr
theorem le_lt_if {a b : Int32} : (if a ≤ b then a else b) = (if a < b then a else b) := by
  by_cases h : a < b
  · rw [if_pos h, if_pos (by rw [le_]; rw [lt_] at h; omega)]
  · rw [if_neg h]
    by_cases h2 : a ≤ b
    · rw [if_pos h2]
      apply Int32.toInt_inj.mp
      rw [le_] at h2
      rw [lt_] at h
      omega
    · rw [if_neg h2]
noncomputable def mt (s T : Sx) (q : Int32) (i c : Nat) : Nat → Int32 :=
  if c = 38 then (fun j => if j < i then nf s q j 4 else T.1 5 38 j) else if c = 41 then (fun j => if j < i then nf s q j 5 else T.1 5 41 j) else if c = 42 then (fun j => if j < i then nf s q j 6 else T.1 5 42 j) else if c = 43 then (fun j => if j < i then nf s q j 7 else T.1 5 43 j) else T.1 5 c
theorem mt_upd {f g : Nat → Int32} {i : Nat} {v : Int32} (hv : v = g i) : upd (fun j => if j < i then g j else f j) i v = fun j => if j < i + 1 then g j else f j := upd_cp (f := g) hv
theorem mt_s {s T : Sx} {q : Int32} {i : Nat} (v1 v2 v3 v4 : Int32) (e1 : v1 = nf s q i 4) (e2 : v2 = nf s q i 5) (e3 : v3 = nf s q i 6) (e4 : v4 = nf s q i 7) : setI (setI (setI (setI (set5 T (mt s T q i)) 5 41 i v2) 5 42 i v3) 5 38 i v1) 5 43 i v4 = set5 T (mt s T q (i + 1)) := by
  rw [set5_1, set5_1, set5_1, set5_1]
  congr 1
  funext c
  by_cases h38 : c = 38
  · subst h38
    simp only [mt, Nat.reduceEqDiff, if_true, if_false]
    exact mt_upd e1
  by_cases h41 : c = 41
  · subst h41
    simp only [mt, Nat.reduceEqDiff, if_true, if_false]
    exact mt_upd e2
  by_cases h42 : c = 42
  · subst h42
    simp only [mt, Nat.reduceEqDiff, if_true, if_false]
    exact mt_upd e3
  by_cases h43 : c = 43
  · subst h43
    simp only [mt, Nat.reduceEqDiff, if_true, if_false]
    exact mt_upd e4
  simp only [mt, h38, h41, h42, h43, if_false]
theorem mt_same {s T : Sx} {q : Int32} {i : Nat} (ha : ¬ act s i) (e4 : T.1 5 38 i = s.1 3 i 4) (e5 : T.1 5 41 i = s.1 3 i 5) (e6 : T.1 5 42 i = s.1 3 i 6) (e7 : T.1 5 43 i = s.1 3 i 7) : mt s T q (i + 1) = mt s T q i := by
  have key : ∀ (f : Nat → Int32) (n : Nat), f i = s.1 3 i n → (fun j => if j < i + 1 then nf s q j n else f j) = (fun j => if j < i then nf s q j n else f j) := by
    intro f n hf
    funext j
    by_cases h : j = i
    · subst h
      rw [if_pos (by omega), if_neg (by omega), nf_no ha, hf]
    · by_cases h2 : j < i
      · rw [if_pos h2, if_pos (by omega)]
      · rw [if_neg h2, if_neg (by omega)]
  funext c
  unfold mt
  rw [key _ 4 e4, key _ 5 e5, key _ 6 e6, key _ 7 e7]
theorem nfa_r (s : Sx) (q : Int32) (w : Nat) : nfa s q w 4 = s.1 3 w 4 + dd s q w ∧ nfa s q w 5 = s.1 3 w 5 + (s.1 3 w 3 - mh s w) * 4 ∧ nfa s q w 6 = s.1 3 w 6 + mh s w * (4 - (4 - 2 * q)) ∧ nfa s q w 7 = s.1 3 w 7 + ((dd s q w + 9) / 10) * 10 := ⟨rfl, rfl, rfl, rfl⟩
theorem wm97 {N i : Nat} {s T : Sx} {q x2 z1 : Int32} {post : Int32 → Sx → Prop} {K : Sx → Int32 → Int32 → Int32 → Prop} (hi : i < 8) (hz : z1 = 4 - 2 * q) (ha : act s i) (e1 : T.1 5 37 i = s.1 3 i 1) (e3 : T.1 5 40 i = s.1 3 i 3) (e4 : T.1 5 38 i = s.1 3 i 4) (e5 : T.1 5 41 i = s.1 3 i 5) (e6 : T.1 5 42 i = s.1 3 i 6) (e7 : T.1 5 43 i = s.1 3 i 7) (hK : K (set5 T (mt s T q (i + 1))) q (x2 + dd s q i) (nI (i + 1))) : w_X12_week_97 N post K (set5 T (mt s T q i)) q x2 (nI i) (mh s i) (mh s i) z1 := by
  have hv : vp_in (nI i) 8 := vp_in_nI hi (by decide)
  have r37 : (set5 T (mt s T q i)).1 5 37 i = s.1 3 i 1 := by simp [rd5_, mt, e1]
  have r38 : (set5 T (mt s T q i)).1 5 38 i = s.1 3 i 4 := by simp [rd5_, mt, e4]
  have r40 : (set5 T (mt s T q i)).1 5 40 i = s.1 3 i 3 := by simp [rd5_, mt, e3]
  have r41 : (set5 T (mt s T q i)).1 5 41 i = s.1 3 i 5 := by simp [rd5_, mt, e5]
  have r42 : (set5 T (mt s T q i)).1 5 42 i = s.1 3 i 6 := by simp [rd5_, mt, e6]
  have r43 : (set5 T (mt s T q i)).1 5 43 i = s.1 3 i 7 := by simp [rd5_, mt, e7]
  have m1 : 4 * (s.1 3 i 3 - mh s i) = (s.1 3 i 3 - mh s i) * 4 := Int32.mul_comm _ _
  have m2 : 4 * mh s i - mh s i * (4 - 2 * q) = mh s i * (4 - (4 - 2 * q)) := by
    generalize (4 - 2 * q) = z
    rw [Int32.mul_sub, Int32.mul_comm 4]
  have hd : dd s q i = if s.1 3 i 1 - s.1 3 i 4 ≤ mh s i * (4 - 2 * q) then s.1 3 i 1 - s.1 3 i 4 else mh s i * (4 - 2 * q) := le_lt_if.symm
  obtain ⟨n4, n5, n6, n7⟩ := nfa_r s q i
  rw [← nf_y ha] at n4 n5 n6 n7
  generalize hT : set5 T (mt s T q i) = U at r37 r38 r40 r41 r42 r43 ⊢
  have hS := mt_s (s := s) (T := T) (q := q) (i := i) _ _ _ _ n4.symm n5.symm n6.symm n7.symm
  rw [hT] at hS
  rw [← hS] at hK
  subst hz
  simp only [w_X12_week_97, w_X12_week_172, hv, nI_clamp (show i < 2 ^ 31 by omega), true_implies, false_implies, implies_true, not_true_eq_false, not_false_eq_true, not_true, not_false_iff, and_true, true_and, and_false, false_and, true_or, or_true, i1n0, i0e0, forall_eq, nI_1, rdI, Nat.reduceEqDiff, and_self, and_true, true_and, and_false, false_and, if_true, if_false, reduceIte, rdU, r37, r38, r40, r41, r42, r43, m1, m2, br_]
  by_cases c : s.1 3 i 1 - s.1 3 i 4 ≤ mh s i * (4 - 2 * q)
  · rw [if_pos c] at hd
    rw [hd] at hK
    simp only [c, if_true]
    exact hK
  · rw [if_neg c] at hd
    rw [hd] at hK
    simp only [c, if_false]
    exact hK
theorem wm_loop {N n : Nat} {s T : Sx} {q : Int32} {post : Int32 → Sx → Prop} (hq : wi q 0 2) (hn : n ≤ 8) (e35 : T.1 6 0 35 = nI n) (hE : ∀ i, i < n → T.1 5 37 i = s.1 3 i 1 ∧ T.1 5 39 i = s.1 3 i 2 ∧ T.1 5 40 i = s.1 3 i 3 ∧ T.1 5 38 i = s.1 3 i 4 ∧ T.1 5 41 i = s.1 3 i 5 ∧ T.1 5 42 i = s.1 3 i 6 ∧ T.1 5 43 i = s.1 3 i 7) (hp : post (sm s q n) (setI (set5 T (mt s T q n)) 6 0 46 (T.1 6 0 46 + 1))) : ∀ m i fuel, i + m = n → m < fuel → w_X12_week_19 N post fuel (set5 T (mt s T q i)) q (sm s q i) (nI i) := by
  have r35 : ∀ i, (set5 T (mt s T q i)).1 6 0 35 = nI n := fun i => e35
  intro m
  induction m with
  | zero =>
    intro i fuel f1 f2
    obtain ⟨f, rfl⟩ : ∃ f, fuel = f + 1 := ⟨fuel - 1, by omega⟩
    have : i = n := by omega
    subst this
    simp only [w_X12_week_19, r35, nle (show i < 2 ^ 31 by omega) (show i < 2 ^ 31 by omega), Nat.le_refl, true_implies, false_implies, implies_true, not_true_eq_false, not_false_eq_true, not_true, not_false_iff, and_true, true_and, and_false, false_and, true_or, or_true, i1n0, i0e0, forall_eq]
    exact hp
  | succ m ih =>
    intro i fuel f1 f2
    obtain ⟨f, rfl⟩ : ∃ f, fuel = f + 1 := ⟨fuel - 1, by omega⟩
    have hr := ih (i + 1) f (by omega) (by omega)
    have hv : vp_in (nI i) 8 := vp_in_nI (by omega) (by decide)
    obtain ⟨e1, e2, e3, e4, e5, e6, e7⟩ := hE i (by omega)
    have r37 : (set5 T (mt s T q i)).1 5 37 i = s.1 3 i 1 := by simp [rd5_, mt, e1]
    have r38 : (set5 T (mt s T q i)).1 5 38 i = s.1 3 i 4 := by simp [rd5_, mt, e4]
    have r39 : (set5 T (mt s T q i)).1 5 39 i = s.1 3 i 2 := by simp [rd5_, mt, e2]
    have r40 : (set5 T (mt s T q i)).1 5 40 i = s.1 3 i 3 := by simp [rd5_, mt, e3]
    simp only [w_X12_week_19, w_X12_week_75, r35, nle (show n < 2 ^ 31 by omega) (show i < 2 ^ 31 by omega), show ¬ n ≤ i by omega, hv, true_implies, false_implies, implies_true, not_true_eq_false, not_false_eq_true, not_true, not_false_iff, and_true, true_and, and_false, false_and, true_or, or_true, i1n0, i0e0, nI_clamp (show i < 2 ^ 31 by omega), forall_eq, nI_1, r37, r38, r39, r40]
    by_cases ha : act s i
    · have ha' : s.1 3 i 4 < s.1 3 i 1 := ha
      rw [sm_y ha] at hr
      have hz : ∀ z1, z1 = 4 - 2 * q → w_X12_week_97 N post (w_X12_week_19 N post f) (set5 T (mt s T q i)) q (sm s q i) (nI i) (mh s i) (mh s i) z1 := fun z1 hz => wm97 (by omega) hz ha e1 e3 e4 e5 e6 e7 hr
      have hmh : mh s i = if s.1 3 i 2 ≤ s.1 3 i 3 then s.1 3 i 2 else s.1 3 i 3 := le_lt_if.symm
      have hbr : (¬ q = 0 → (¬ q = 1 → w_X12_week_97 N post (w_X12_week_19 N post f) (set5 T (mt s T q i)) q (sm s q i) (nI i) (mh s i) (mh s i) 0) ∧ (¬ (¬ q = 1) → w_X12_week_97 N post (w_X12_week_19 N post f) (set5 T (mt s T q i)) q (sm s q i) (nI i) (mh s i) (mh s i) 2)) ∧ (¬ (¬ q = 0) → w_X12_week_97 N post (w_X12_week_19 N post f) (set5 T (mt s T q i)) q (sm s q i) (nI i) (mh s i) (mh s i) 4) := by
        obtain ⟨j, hj, ej⟩ := wi_n (n := 2) (by decide) hq
        have hj2 : j = 0 ∨ j = 1 ∨ j = 2 := by omega
        rcases hj2 with h | h | h
        · rw [h] at ej
          refine ⟨fun hc => absurd ej hc, fun _ => hz 4 (by rw [ej]; decide)⟩
        · rw [h] at ej
          refine ⟨fun _ => ⟨fun hc => absurd ej hc, fun _ => hz 2 (by rw [ej]; decide)⟩, fun hc => absurd (ej.symm.trans (Classical.not_not.mp hc)) (by decide)⟩
        · rw [h] at ej
          refine ⟨fun _ => ⟨fun _ => hz 0 (by rw [ej]; decide), fun hc => absurd (ej.symm.trans (Classical.not_not.mp hc)) (by decide)⟩, fun hc => absurd (ej.symm.trans (Classical.not_not.mp hc)) (by decide)⟩
      simp only [ha', true_implies, false_implies, implies_true, not_true_eq_false, not_false_eq_true, not_true, not_false_iff, and_true, true_and, and_false, false_and, true_or, or_true, i1n0, i0e0]
      by_cases c1 : s.1 3 i 2 ≤ s.1 3 i 3
      · rw [if_pos c1] at hmh
        rw [hmh] at hbr
        simp only [c1, true_implies, false_implies, implies_true, not_true_eq_false, not_false_eq_true, not_true, not_false_iff, and_true, true_and, and_false, false_and, true_or, or_true, i1n0, i0e0]
        exact hbr
      · rw [if_neg c1] at hmh
        rw [hmh] at hbr
        simp only [c1, true_implies, false_implies, implies_true, not_true_eq_false, not_false_eq_true, not_true, not_false_iff, and_true, true_and, and_false, false_and, true_or, or_true, i1n0, i0e0]
        exact hbr
    · have ha' : ¬ s.1 3 i 4 < s.1 3 i 1 := ha
      rw [sm_n ha, mt_same ha e4 e5 e6 e7] at hr
      simp only [ha', true_implies, false_implies, implies_true, not_true_eq_false, not_false_eq_true, not_true, not_false_iff, and_true, true_and, and_false, false_and, true_or, or_true, i1n0, i0e0]
      exact hr
/-- a work behind a week is in its ranges -/
theorem nf_in {k w : Nat} {s : Sx} {q : Int32} (hk : k ≤ 600) (hq : wi q 0 2) (h : iw2 k s w) : wi (nf s q w 1) 1 9999 ∧ wi (nf s q w 2) 0 20 ∧ wi (nf s q w 3) 0 20 ∧ wi (nf s q w 4) 0 (nf s q w 1) ∧ 0 ≤ (nf s q w 7).toInt ∧ (nf s q w 7).toInt ≤ 80 * ((k + 1 : Nat) : Int) := by
  obtain ⟨b1, b2, b3, b4, b5, b6⟩ := h
  by_cases ha : act s w
  case neg =>
    rw [nf_no ha]
    exact ⟨b1, b2, b3, b4, b5, by omega⟩
  rw [nf_y ha]
  have n1 : nfa s q w 1 = s.1 3 w 1 := rfl
  have n2 : nfa s q w 2 = s.1 3 w 2 := rfl
  have n3 : nfa s q w 3 = s.1 3 w 3 := rfl
  obtain ⟨n4, n5, n6, n7⟩ := nfa_r s q w
  rw [n1, n2, n3, n4, n7]
  refine ⟨b1, b2, b3, ?_⟩
  obtain ⟨e, he, ee⟩ := wi_n (n := 9999) (by decide) (wi_m b1 (by decide) (by decide) : wi (s.1 3 w 1) 0 9999)
  obtain ⟨t, ht, et⟩ := wi_n (n := 20) (by decide) b2
  obtain ⟨h, hh, eh⟩ := wi_n (n := 20) (by decide) b3
  rw [ee] at b4
  obtain ⟨d, hd, ed⟩ := wi_n (n := e) (by omega) b4
  obtain ⟨j, hj, ej⟩ := wi_n (n := 2) (by decide) hq
  obtain ⟨x, hx, ex⟩ := nI_of (x := s.1 3 w 7) (by rw [lt_, show (0 : Int32).toInt = 0 from by decide]; omega)
  rw [ex, nI_toInt hx] at b6
  have em : ∃ m, m ≤ 20 ∧ mh s w = nI m := by
    unfold mh
    rw [et, eh]
    by_cases c : nI t < nI h
    · exact ⟨t, ht, if_pos c⟩
    · exact ⟨h, hh, if_neg c⟩
  obtain ⟨m, hm, em⟩ := em
  have e42 : (4 : Int32) - 2 * q = nI (4 - 2 * j) := by
    rw [ej, show (2 : Int32) = nI 2 from rfl, pk_mul, show (4 : Int32) = nI 4 from rfl, pk_sub (by omega)]
  have hm4 : m * (4 - 2 * j) ≤ 80 := Nat.le_trans (Nat.mul_le_mul hm (show 4 - 2 * j ≤ 4 by omega)) (by decide)
  have edd : ∃ y, y ≤ 80 ∧ y ≤ e - d ∧ dd s q w = nI y := by
    unfold dd
    rw [em, e42, ee, ed, pk_sub hd, pk_mul]
    by_cases c : nI (e - d) < nI (m * (4 - 2 * j))
    · rw [if_pos c]
      rw [nlt (by omega) (by omega)] at c
      exact ⟨e - d, by omega, Nat.le_refl _, rfl⟩
    · rw [if_neg c]
      rw [nlt (by omega) (by omega)] at c
      exact ⟨_, hm4, by omega, rfl⟩
  obtain ⟨y, hy1, hy2, edd⟩ := edd
  rw [edd, ed, ee, ex, nI_add, show (9 : Int32) = nI 9 from rfl, nI_add, show (10 : Int32) = nI 10 from rfl, pk_div (by omega) (by decide) (by decide), pk_mul, nI_add, nI_toInt (by omega)]
  refine ⟨wi_nI (by omega) (by omega), by omega, by omega⟩
set_option maxHeartbeats 2000000 in
theorem cs_week {N k : Nat} {s : Sx} (hN : 20000 ≤ N) (hk : k ≤ 600) (hI : Inv k s)  (P : Int32 → Int32 → Sx → Prop) (hP : ∀ r s', Inv (k + 1) s' → P r r s') : w_X11_week N  s (fun r s1 => w_X12_week N  s1 (fun r2 s2 => P r r2 s2)) := by
  have hI2 := hI.up
  obtain ⟨hIC, hIM, hIP, hIZ, hIR, hIY, hIW, hIT, hIF, hIL, hIS⟩ := id hI
  obtain ⟨e1, e2, e3, e4, e5, e6, e7, e8, e9, e10, e11, e12, e13, e14, e15, e16⟩ := id hIW
  obtain ⟨b, hb, eb⟩ := wi_n (n := 8) (by decide) (wi_m e9 (by decide) (by decide) : wi (s.1 0 14 3) 0 8)
  obtain ⟨a, ha, ea⟩ := nI_of (x := s.1 0 14 4) (by rw [lt_, show (0 : Int32).toInt = 0 from by decide]; omega)
  have hb1 : 1 ≤ b := by
    have := (wi_i.mp e9).1
    rw [eb, nI_toInt (by omega), show (1 : Int32).toInt = 1 from by decide] at this
    omega
  have hmod : a % b < b := Nat.mod_lt _ (by omega)
  have hv : vp_in (nI (a % b)) 8 := vp_in_nI (by omega) (by decide)
  simp only [w_X11_week, w_X10_passWeek, ea, eb, rem_eq ha (show b < 2 ^ 31 by omega) hb1, hv, true_implies, false_implies, implies_true, not_true_eq_false, not_false_eq_true, not_true, not_false_iff, and_true, true_and, and_false, false_and, true_or, or_true, i1n0, i0e0, forall_eq, nI_clamp (show a % b < 2 ^ 31 by omega)]
  generalize hq : s.1 0 16 (a % b) = q
  have hqw : wi q 0 2 := by rw [← hq]; exact e7 _
  have es : setI s 0 14 4 (nI a + 1) = set3 (setI s 0 14 4 (nI a + 1)) (fun j => if j < 0 ∧ j < s.2.2 4 then nf s q j else s.1 3 j) := by
    refine Prod.ext ?_ rfl
    funext k j
    rw [rd3_]
    by_cases h : k = 3
    · subst h
      rw [if_pos rfl, if_neg (by omega)]
      rfl
    · rw [if_neg h]
  rw [es]
  have hz0 : sm s q (min 0 (s.2.2 4)) = 0 := by rw [show min 0 (s.2.2 4) = 0 by omega]; rfl
  rw [← nI_0]
  have hmain := fun hp => wc_loop (N := N) (n := s.2.2 4) (s := s) (S := setI s 0 14 4 (nI a + 1)) (q := q) (post := fun r_2 s_1 => w_X12_week N s_1 fun r2 s2 => P r_2 r2 s2) rfl e3 e4 rfl hp 8 0 N rfl (by omega)
  rw [hz0] at hmain
  refine hmain ?_
  generalize hT : set3 (setI s 0 14 4 (nI a + 1)) (fun j => if j < s.2.2 4 then nf s q j else s.1 3 j) = T
  have t45 : T.1 6 0 45 = nI b := by rw [← hT]; show s.1 6 0 45 = _; rw [← e8, eb]
  have t46 : T.1 6 0 46 = nI a := by rw [← hT]; show s.1 6 0 46 = _; rw [← e10, ea]
  have t44 : T.1 5 44 = s.1 0 16 := by rw [← hT]; show s.1 5 44 = _; rw [e6]
  have h0 : ¬ nI b = 0 := nI_ne0 (by omega) (by omega)
  simp only [w_X12_week, t45, t46, t44, h0, pk_rem ha (show 0 < b by omega) (show b < 2 ^ 31 by omega), hv, true_implies, false_implies, implies_true, not_true_eq_false, not_false_eq_true, not_true, not_false_iff, and_true, true_and, and_false, false_and, true_or, or_true, i1n0, i0e0, forall_eq, nI_clamp (show a % b < 2 ^ 31 by omega), hq]
  have et : T = set5 T (mt s T q 0) := by
    refine Prod.ext ?_ rfl
    funext k j
    rw [rd5_]
    by_cases h : k = 5
    · subst h
      simp [mt]
      repeat' split
      all_goals subst_vars
      all_goals rfl
    · rw [if_neg h]
  rw [et]
  refine wm_loop (n := s.2.2 4) hqw e4 (by rw [← hT]; show s.1 6 0 35 = _; rw [← e1, e2]) (fun i hi => ?_) ?_ (s.2.2 4) 0 N (by omega) (by omega)
  · obtain ⟨⟨a1, a2, a3, a4, a5, a6, a7, a8⟩, -⟩ := e5 i hi
    rw [← hT]
    exact ⟨a2.symm, a3.symm, a4.symm, a5.symm, a6.symm, a7.symm, a8.symm⟩
  rw [t46]
  subst hT
  refine hP _ _ ⟨(IC.of rfl rfl rfl rfl rfl rfl rfl rfl rfl rfl hIC), (IM.of rfl rfl hIM), (IP.of rfl rfl rfl rfl rfl rfl rfl rfl rfl rfl hIP), (IZ.of rfl rfl rfl rfl hIZ), (IR.of rfl rfl rfl rfl rfl rfl rfl rfl rfl rfl rfl rfl rfl rfl hIR), (IY.of rfl rfl rfl rfl rfl rfl rfl rfl rfl rfl rfl rfl rfl rfl hIY), ?_, (IT.of rfl rfl rfl rfl rfl rfl rfl rfl rfl rfl rfl rfl hIT), (IF.of rfl rfl rfl rfl rfl rfl rfl rfl rfl rfl hIF), (IL.of rfl rfl rfl rfl rfl rfl rfl rfl rfl rfl hIL), (IS.of rfl rfl rfl rfl rfl rfl rfl rfl rfl rfl rfl hIS)⟩
  have hai : (nI a + 1 : Int32).toInt = (a : Int) + 1 := by
    rw [ea, nI_toInt ha] at e12
    rw [nI_1, nI_toInt (by omega)]
    omega
  refine ⟨e1, e2, e3, e4, fun w hw => ?_, e6, e7, e8, e9, rfl, ?_, ?_, e13, e14, e15, e16⟩
  · have hw' : w < s.2.2 4 := hw
    obtain ⟨⟨a1, a2, a3, a4, a5, a6, a7, a8⟩, hb⟩ := e5 w hw'
    have hn := nf_in hk hqw hb
    have g3 : ∀ i, (setI (set5 (set3 (setI s 0 14 4 (nI a + 1)) (fun j => if j < s.2.2 4 then nf s q j else s.1 3 j)) (mt s (set3 (setI s 0 14 4 (nI a + 1)) (fun j => if j < s.2.2 4 then nf s q j else s.1 3 j)) q (s.2.2 4))) 6 0 46 (nI a + 1)).1 3 w i = nf s q w i := by
      intro i
      show (if w < s.2.2 4 then nf s q w else s.1 3 w) i = _
      rw [if_pos hw']
    have gm : ∀ n, (if w < s.2.2 4 then nf s q w n else s.1 3 w n) = nf s q w n := fun n => if_pos hw'
    have o0 : nf s q w 0 = s.1 3 w 0 := by by_cases c : act s w; (rw [nf_y c]; rfl); (rw [nf_no c])
    have o1 : nf s q w 1 = s.1 3 w 1 := by by_cases c : act s w; (rw [nf_y c]; rfl); (rw [nf_no c])
    have o2 : nf s q w 2 = s.1 3 w 2 := by by_cases c : act s w; (rw [nf_y c]; rfl); (rw [nf_no c])
    have o3 : nf s q w 3 = s.1 3 w 3 := by by_cases c : act s w; (rw [nf_y c]; rfl); (rw [nf_no c])
    unfold iw1 iw2
    simp only [g3]
    refine ⟨⟨?_, ?_, ?_, ?_, ?_, ?_, ?_, ?_⟩, hn⟩
    · rw [o0]; exact a1
    · rw [o1]; exact a2
    · rw [o2]; exact a3
    · rw [o3]; exact a4
    · show _ = if w < s.2.2 4 then nf s q w 4 else _
      rw [if_pos hw']
    · show _ = if w < s.2.2 4 then nf s q w 5 else _
      rw [if_pos hw']
    · show _ = if w < s.2.2 4 then nf s q w 6 else _
      rw [if_pos hw']
    · show _ = if w < s.2.2 4 then nf s q w 7 else _
      rw [if_pos hw']
  · show 0 ≤ (nI a + 1 : Int32).toInt
    omega
  · show (nI a + 1 : Int32).toInt ≤ ((k + 1 : Nat) : Int)
    rw [ea, nI_toInt ha] at e12
    omega
