/-! a week -/
theorem nI_xor {a b : Nat} (ha : a < 2 ^ 31) (hb : b < 2 ^ 31) : nI a ^^^ nI b = nI (a ^^^ b) ∧ a ^^^ b < 2 ^ 31 := by
  have hl : a ^^^ b < 2 ^ 31 := Nat.xor_lt_two_pow ha hb
  refine ⟨Int32.toBitVec_inj.mp (BitVec.eq_of_toNat_eq ?_), hl⟩
  show ((nI a).toBitVec ^^^ (nI b).toBitVec).toNat = _
  rw [BitVec.toNat_xor, pk_tn (by omega), pk_tn (by omega), pk_tn (by omega)]
theorem rem_eq {N a b : Nat} {s : Sx} {post : Int32 → Sx → Prop} (ha : a < 2 ^ 31) (hb : b < 2 ^ 31) (hb0 : 1 ≤ b) : w_X11_remainder N (nI a) (nI b) s post = post (nI (a % b)) s := by
  obtain ⟨x1, x2⟩ := nI_xor ha hb
  have h0 : ¬ nI b = 0 := nI_ne0 (by omega) hb
  have h1 : (1 : Int32) ≤ nI b := nI_le (a := 1) hb0 hb
  simp only [w_X11_remainder, w_J9_floorMod_7cf53, h0, h1, x1, nI_pos' x2, true_implies, false_implies, implies_true, not_true_eq_false, not_false_eq_true, not_true, not_false_iff, and_true, true_and, and_false, false_and, true_or, or_true, i1n0, i0e0, forall_eq, pk_rem ha (show 0 < b by omega) hb]
def mh (s : Sx) (w : Nat) : Int32 := if s.1 3 w 2 < s.1 3 w 3 then s.1 3 w 2 else s.1 3 w 3
def dd (s : Sx) (q : Int32) (w : Nat) : Int32 := if s.1 3 w 1 - s.1 3 w 4 < mh s w * (4 - 2 * q) then s.1 3 w 1 - s.1 3 w 4 else mh s w * (4 - 2 * q)
def act (s : Sx) (w : Nat) : Prop := s.1 3 w 4 < s.1 3 w 1
def nfa (s : Sx) (q : Int32) (w : Nat) : Nat → Int32 := upd (upd (upd (upd (s.1 3 w) 4 (s.1 3 w 4 + dd s q w)) 5 (s.1 3 w 5 + (s.1 3 w 3 - mh s w) * 4)) 6 (s.1 3 w 6 + mh s w * (4 - (4 - 2 * q)))) 7 (s.1 3 w 7 + ((dd s q w + 9) / 10) * 10)
noncomputable def nf (s : Sx) (q : Int32) (w : Nat) : Nat → Int32 := @ite _ (act s w) (pd _) (nfa s q w) (s.1 3 w)
theorem nf_y {s : Sx} {q : Int32} {w : Nat} (h : act s w) : nf s q w = nfa s q w := if_pos h
theorem nf_no {s : Sx} {q : Int32} {w : Nat} (h : ¬ act s w) : nf s q w = s.1 3 w := if_neg h
noncomputable def sm (s : Sx) (q : Int32) : Nat → Int32
  | 0 => 0
  | n + 1 => sm s q n + @ite _ (act s n) (pd _) (dd s q n) 0
theorem sm_y {s : Sx} {q : Int32} {n : Nat} (h : act s n) : sm s q (n + 1) = sm s q n + dd s q n := by
  show sm s q n + _ = _
  rw [if_pos h]
theorem sm_n {s : Sx} {q : Int32} {n : Nat} (h : ¬ act s n) : sm s q (n + 1) = sm s q n := by
  show sm s q n + _ = _
  rw [if_neg h, Int32.add_zero]
def set3 (s : Sx) (g : Nat → Nat → Int32) : Sx := (fun k j => if k = 3 then g j else s.1 k j, s.2)
def set5 (s : Sx) (g : Nat → Nat → Int32) : Sx := (fun k j => if k = 5 then g j else s.1 k j, s.2)
theorem rd3_ (s : Sx) (g : Nat → Nat → Int32) (k j : Nat) : (set3 s g).1 k j = if k = 3 then g j else s.1 k j := rfl
theorem rd5_ (s : Sx) (g : Nat → Nat → Int32) (k j : Nat) : (set5 s g).1 k j = if k = 5 then g j else s.1 k j := rfl
theorem set3_1 (s : Sx) (g : Nat → Nat → Int32) (w i : Nat) (v : Int32) : setI (set3 s g) 3 w i v = set3 s (fun j => if j = w then upd (g w) i v else g j) := by
  refine Prod.ext ?_ rfl
  funext k j
  simp only [rdI, rd3_]
  by_cases h : k = 3
  · by_cases h2 : j = w <;> simp [h, h2]
  · simp [h]
theorem set5_1 (s : Sx) (g : Nat → Nat → Int32) (w i : Nat) (v : Int32) : setI (set5 s g) 5 w i v = set5 s (fun j => if j = w then upd (g w) i v else g j) := by
  refine Prod.ext ?_ rfl
  funext k j
  simp only [rdI, rd5_]
  by_cases h : k = 5
  · by_cases h2 : j = w <;> simp [h, h2]
  · simp [h]
theorem wc_loop {N n : Nat} {s S : Sx} {q : Int32} {post : Int32 → Sx → Prop} (e4 : S.2.2 4 = n) (e5 : S.2.2 5 = n) (hn : n ≤ 8) (h3 : S.1 3 = s.1 3) (hp : post (sm s q n) (set3 S (fun j => if j < n then nf s q j else s.1 3 j))) : ∀ m i fuel, i + m = 8 → m < fuel → w_X10_passWeek_41 N post fuel (set3 S (fun j => if j < i ∧ j < n then nf s q j else s.1 3 j)) q (sm s q (min i n)) 8 (nI i) := by
  intro m
  induction m with
  | zero =>
    intro i fuel f1 f2
    obtain ⟨f, rfl⟩ : ∃ f, fuel = f + 1 := ⟨fuel - 1, by omega⟩
    have : i = 8 := by omega
    subst this
    simp only [w_X10_passWeek_41, show (8 : Int32) = nI 8 from rfl, nle (show 8 < 2 ^ 31 by omega) (show 8 < 2 ^ 31 by omega), Nat.le_refl, true_implies, false_implies, implies_true, not_true_eq_false, not_false_eq_true, not_true, not_false_iff, and_true, true_and, and_false, false_and, true_or, or_true, i1n0, i0e0]
    rw [show min 8 n = n by omega, show (fun j => if j < 8 ∧ j < n then nf s q j else s.1 3 j) = (fun j => if j < n then nf s q j else s.1 3 j) from by
      funext j
      by_cases h : j < n
      · rw [if_pos ⟨by omega, h⟩, if_pos h]
      · rw [if_neg (fun q => h q.2), if_neg h]]
    exact hp
  | succ m ih =>
    intro i fuel f1 f2
    obtain ⟨f, rfl⟩ : ∃ f, fuel = f + 1 := ⟨fuel - 1, by omega⟩
    have hr := ih (i + 1) f (by omega) (by omega)
    have hv : vp_in (nI i) 8 := vp_in_nI (by omega) (by decide)
    by_cases hi : i < n
    case neg =>
      have e : (fun j => if j < i + 1 ∧ j < n then nf s q j else s.1 3 j) = (fun j => if j < i ∧ j < n then nf s q j else s.1 3 j) := by
        funext j
        by_cases h : j < i ∧ j < n
        · rw [if_pos h, if_pos (by omega)]
        · rw [if_neg h, if_neg (by omega)]
      rw [e, show min (i + 1) n = min i n by omega] at hr
      have hs : (set3 S (fun j => if j < i ∧ j < n then nf s q j else s.1 3 j)).2.2 5 = n := e5
      simp only [w_X10_passWeek_41, show (8 : Int32) = nI 8 from rfl, nle (show 8 < 2 ^ 31 by omega) (show i < 2 ^ 31 by omega), show ¬ 8 ≤ i by omega, true_implies, false_implies, implies_true, not_true_eq_false, not_false_eq_true, not_true, not_false_iff, and_true, true_and, and_false, false_and, true_or, or_true, i1n0, i0e0, hv, nI_clamp (show i < 2 ^ 31 by omega), hs, hi, forall_eq, nI_1]
      exact hr
    generalize hT : set3 S (fun j => if j < i ∧ j < n then nf s q j else s.1 3 j) = T
    have hs : T.2.2 5 = n := by rw [← hT]; exact e5
    have hs4 : T.2.2 4 = n := by rw [← hT]; exact e4
    have hc : T.1 3 i = s.1 3 i := by rw [← hT]; simp [rd3_]
    simp only [w_X10_passWeek_41, w_X9_passWeek, show (8 : Int32) = nI 8 from rfl, nle (show 8 < 2 ^ 31 by omega) (show i < 2 ^ 31 by omega), show ¬ 8 ≤ i by omega, true_implies, false_implies, implies_true, not_true_eq_false, not_false_eq_true, not_true, not_false_iff, and_true, true_and, and_false, false_and, true_or, or_true, i1n0, i0e0, hv, nI_clamp (show i < 2 ^ 31 by omega), hs, hs4, hi, forall_eq, nI_1, hc, rdI2, rdI, and_self, if_true, rdU, Nat.reduceEqDiff, if_false, w_J9_min_7cf53, br_]
    rw [show min i n = i by omega]
    rw [show min (i + 1) n = i + 1 by omega] at hr
    by_cases ha : act s i
    · have ha' : s.1 3 i 4 < s.1 3 i 1 := ha
      rw [sm_y ha] at hr
      have e : set3 S (fun j => if j < i + 1 ∧ j < n then nf s q j else s.1 3 j) = setI (setI (setI (setI T 3 i 4 (s.1 3 i 4 + dd s q i)) 3 i 5 (s.1 3 i 5 + (s.1 3 i 3 - mh s i) * 4)) 3 i 6 (s.1 3 i 6 + mh s i * (4 - (4 - 2 * q)))) 3 i 7 (s.1 3 i 7 + ((dd s q i + 9) / 10) * 10) := by
        rw [← hT, set3_1, set3_1, set3_1, set3_1]
        congr 1
        funext j
        by_cases hj : j = i
        · subst hj
          rw [if_pos ⟨by omega, hi⟩, nf_y ha]
          simp [nfa]
        · by_cases h : j < i ∧ j < n
          · rw [if_pos (by omega)]
            simp [hj, h]
          · rw [if_neg (by omega)]
            simp [hj, h]
      rw [e] at hr
      unfold dd mh at hr
      rw [if_pos ha']
      by_cases c1 : s.1 3 i 2 < s.1 3 i 3
      · simp only [c1, if_true] at hr ⊢
        by_cases c2 : s.1 3 i 1 - s.1 3 i 4 < s.1 3 i 2 * (4 - 2 * q)
        · simp only [c2, if_true] at hr ⊢
          exact hr
        · simp only [c2, if_false] at hr ⊢
          exact hr
      · simp only [c1, if_false] at hr ⊢
        by_cases c2 : s.1 3 i 1 - s.1 3 i 4 < s.1 3 i 3 * (4 - 2 * q)
        · simp only [c2, if_true] at hr ⊢
          exact hr
        · simp only [c2, if_false] at hr ⊢
          exact hr
    · have ha' : ¬ s.1 3 i 4 < s.1 3 i 1 := ha
      have e : set3 S (fun j => if j < i + 1 ∧ j < n then nf s q j else s.1 3 j) = T := by
        rw [← hT]
        congr 1
        funext j
        by_cases hj : j = i
        · subst hj
          rw [if_pos ⟨by omega, hi⟩, nf_no ha]
          simp
        · by_cases h : j < i ∧ j < n
          · rw [if_pos h, if_pos (by omega)]
          · rw [if_neg h, if_neg (by omega)]
      rw [e, sm_n ha] at hr
      rw [if_neg ha', Int32.add_zero]
      exact hr
