theorem i1n0 : ((1 : Int32) = 0) = False := by simp
theorem i0n1 : ((0 : Int32) = 1) = False := by simp
theorem lt_ {a b : Int32} : a < b ↔ a.toInt < b.toInt := Int32.lt_iff_toInt_lt
theorem le_ {a b : Int32} : a ≤ b ↔ a.toInt ≤ b.toInt := Int32.le_iff_toInt_le
theorem wi_n {x : Int32} {n : Nat} (hn : n < 2 ^ 31) (h : wi x 0 (nI n)) : ∃ j : Nat, j ≤ n ∧ x = nI j := by
  have h1 : ¬ x < 0 := by rw [lt_]; have := wi_i.mp h; omega
  obtain ⟨j, hj, rfl⟩ := nI_of h1
  refine ⟨j, ?_, rfl⟩
  have := (wi_i.mp h).2
  rw [nI_toInt hj, nI_toInt hn] at this
  omega
/-- all of a row in lo .. hi -/
def al (f : Nat → Int32) (lo hi : Int32) : Prop := ∀ i, wi (f i) lo hi
theorem al_u {f : Nat → Int32} {lo hi x : Int32} {k : Nat} (h : al f lo hi) (hx : wi x lo hi) : al (upd f k x) lo hi := fun i => by
  show wi (if i = k then x else f i) lo hi
  by_cases e : i = k
  · rw [if_pos e]; exact hx
  · rw [if_neg e]; exact h i
theorem wi_m {x a b a2 b2 : Int32} (h : wi x a b) (h1 : a2 ≤ a) (h2 : b ≤ b2) : wi x a2 b2 := by
  rw [wi_i] at h ⊢; rw [le_] at h1 h2; omega
theorem up_c {f g : Nat → Int32} {k : Nat} {x : Int32} (h : f = g) : upd f k x = upd g k x := by rw [h]
/-- a count: full, or one more fits -/
theorem cnt_cases {c M : Int32} {m : Nat} (hm : M = nI m) (hm2 : m < 2 ^ 30) (h : wi c 0 M) : (c = M ∧ ¬ c < M) ∨ (c < M ∧ ¬ c = M ∧ vp_in c m ∧ wi (c + 1) 0 M ∧ (c + 1).toNatClampNeg = c.toNatClampNeg + 1 ∧ c.toNatClampNeg < m) := by
  subst hm
  obtain ⟨j, hj, rfl⟩ := wi_n (by omega) h
  have h1 : nI j + 1 = nI (j + 1) := nI_1 j
  by_cases e : j = m
  · subst e
    exact Or.inl ⟨rfl, nI_nlt (Nat.le_refl _) (by omega)⟩
  · refine Or.inr ⟨nI_lt (by omega) (by omega), fun q => e ((nI_eq (by omega) (by omega)).mp q), vp_in_nI (by omega) (by omega), ?_, ?_, ?_⟩
    · rw [h1]; exact ⟨nI_pos' (by omega), nI_le (by omega) (by omega)⟩
    · rw [h1, nI_clamp (by omega), nI_clamp (by omega)]
    · rw [nI_clamp (by omega)]; omega
/-- a number below a count -/
theorem inC {x c : Int32} {M : Nat} (hM : M < 2 ^ 30) (hc : wi c 0 (nI M)) (h : wi x 0 (c - 1)) : ∃ j : Nat, x = nI j ∧ j < c.toNatClampNeg ∧ c.toNatClampNeg ≤ M ∧ vp_in x M ∧ x.toNatClampNeg = j := by
  obtain ⟨n, hn, rfl⟩ := wi_n (by omega) hc
  have h0 := wi_i.mp h
  have hs : (nI n - 1).toInt = (n : Int) - 1 := by
    rw [Int32.toInt_sub, nI_toInt (by omega)]
    show ((n : Int) - (1 : Int32).toInt).bmod _ = _
    rw [show (1 : Int32).toInt = 1 from by decide, Int.bmod_eq_of_le] <;> omega
  rw [hs] at h0
  have hx : ¬ x < 0 := by rw [lt_]; have : (0 : Int32).toInt = 0 := by decide
                          omega
  obtain ⟨j, hj, rfl⟩ := nI_of hx
  rw [nI_toInt hj, show (0 : Int32).toInt = 0 from by decide] at h0
  rw [nI_clamp (show n < 2 ^ 31 by omega), nI_clamp hj]
  exact ⟨j, rfl, by omega, hn, vp_in_nI (by omega) (by omega), rfl⟩
theorem mc_eq {x c : Int32} {M : Nat} (hM : M < 2 ^ 30) (hc : wi c 0 (nI M)) (A B : Prop) : ((x < 0 → B) ∧ (¬ x < 0 → (c ≤ x → B) ∧ (¬ c ≤ x → A))) = ((wi x 0 (c - 1) → A) ∧ (¬ wi x 0 (c - 1) → B)) := by
  obtain ⟨n, hn, rfl⟩ := wi_n (by omega) hc
  have hs : (nI n - 1).toInt = (n : Int) - 1 := by
    rw [Int32.toInt_sub, nI_toInt (by omega)]
    show ((n : Int) - (1 : Int32).toInt).bmod _ = _
    rw [show (1 : Int32).toInt = 1 from by decide, Int.bmod_eq_of_le] <;> omega
  have z : (0 : Int32).toInt = 0 := by decide
  by_cases h1 : x < 0
  · have h2 : ¬ wi x 0 (nI n - 1) := fun h => by have := wi_i.mp h; rw [lt_] at h1; omega
    simp [h1, h2]
  · by_cases h3 : nI n ≤ x
    · have h2 : ¬ wi x 0 (nI n - 1) := fun h => by
        have := wi_i.mp h
        rw [le_, nI_toInt (by omega)] at h3
        rw [hs] at this
        omega
      simp [h1, h2, h3]
    · have h2 : wi x 0 (nI n - 1) := by
        rw [wi_i, hs, z]
        rw [le_, nI_toInt (by omega)] at h3
        rw [lt_] at h1
        omega
      simp [h1, h2, h3]
def IC (s : Sx) : Prop := s.1 0 1 4 = s.1 6 0 5 ∧ wi (s.1 0 1 4) 0 7 ∧ s.1 0 2 = s.1 5 6 ∧ s.1 0 3 = s.1 5 7 ∧ s.1 0 4 = s.1 5 8 ∧ s.1 0 5 = s.1 5 60 ∧ al (s.1 0 2) 0 40 ∧ al (s.1 0 3) 0 40 ∧ al (s.1 0 4) 0 9 ∧ al (s.1 0 5) 0 9 ∧ ∀ i, (s.1 0 1 4).toNatClampNeg ≤ i → s.1 0 5 i = 0
def IM (s : Sx) : Prop := s.1 0 0 1 = s.1 6 0 9 ∧ wi (s.1 0 0 1) 0 20
/-- the post p of the class is the reference's -/
def ip1 (s : Sx) (p : Nat) : Prop := s.1 1 p 0 = s.1 5 11 p ∧ s.1 1 p 1 = s.1 5 12 p ∧ s.1 1 p 2 = s.1 5 13 p ∧ s.1 1 p 3 = s.1 5 14 p ∧ s.1 1 p 4 = s.1 5 15 p
def ip2 (s : Sx) (p : Nat) : Prop := wi (s.1 1 p 0) 0 2 ∧ wi (s.1 1 p 3) 0 399 ∧ wi (s.1 1 p 4) 0 399 ∧ s.1 1 p 3 ≤ s.1 1 p 4
def ip3 (s : Sx) (p q : Nat) : Prop := s.1 1 p 1 = s.1 1 q 1 → s.1 1 p 4 < s.1 1 q 3 ∨ s.1 1 q 4 < s.1 1 p 3
def IP (s : Sx) : Prop := s.1 0 0 3 = s.1 6 0 10 ∧ s.1 0 0 3 = nI (s.2.2 0) ∧ s.2.2 1 = s.2.2 0 ∧ s.2.2 0 ≤ 30 ∧ (∀ p, p < s.2.2 0 → ip1 s p ∧ ip2 s p) ∧ ∀ p q, p < s.2.2 0 → q < s.2.2 0 → p ≠ q → ip3 s p q
def IZ (s : Sx) : Prop := s.1 0 0 4 = s.1 6 0 1 ∧ s.1 0 0 14 = s.1 6 0 0
def io1 (s : Sx) (o : Nat) : Prop := s.1 2 o 0 = s.1 5 17 o ∧ s.1 2 o 1 = s.1 5 18 o ∧ s.1 2 o 2 = s.1 5 19 o ∧ s.1 2 o 3 = s.1 5 20 o ∧ s.1 2 o 4 = s.1 5 21 o ∧ s.1 2 o 5 = s.1 5 22 o ∧ s.1 2 o 6 = s.1 5 23 o
def io2 (s : Sx) (o : Nat) : Prop := wi (s.1 2 o 0) 0 4 ∧ wi (s.1 2 o 6) 0 399
def IR (s : Sx) : Prop := s.1 0 0 7 = s.1 6 0 16 ∧ s.1 0 0 7 = nI (s.2.2 2) ∧ s.2.2 3 = s.2.2 2 ∧ s.2.2 2 ≤ 12 ∧ (∀ o, o < s.2.2 2 → io1 s o ∧ io2 s o) ∧ s.1 0 7 = s.1 5 24 ∧ al (s.1 0 7) 0 30
def IY (s : Sx) : Prop := s.1 0 10 = s.1 5 28 ∧ al (s.1 0 10) 0 999 ∧ s.1 0 9 1 = s.1 6 0 29 ∧ s.1 0 9 2 = s.1 6 0 30 ∧ wi (s.1 0 9 2) 1 100 ∧ wi (s.1 0 9 1) 0 (s.1 0 9 2) ∧ s.1 0 9 6 = s.1 6 0 31 ∧ wi (s.1 0 9 6) 0 30 ∧ s.1 0 11 = s.1 5 32 ∧ s.1 0 12 = s.1 5 33 ∧ s.1 0 13 = s.1 5 34 ∧ al (s.1 0 13) 0 9999
def iw1 (s : Sx) (w : Nat) : Prop := s.1 3 w 0 = s.1 5 36 w ∧ s.1 3 w 1 = s.1 5 37 w ∧ s.1 3 w 2 = s.1 5 39 w ∧ s.1 3 w 3 = s.1 5 40 w ∧ s.1 3 w 4 = s.1 5 38 w ∧ s.1 3 w 5 = s.1 5 41 w ∧ s.1 3 w 6 = s.1 5 42 w ∧ s.1 3 w 7 = s.1 5 43 w
def iw2 (k : Nat) (s : Sx) (w : Nat) : Prop := wi (s.1 3 w 1) 1 9999 ∧ wi (s.1 3 w 2) 0 20 ∧ wi (s.1 3 w 3) 0 20 ∧ wi (s.1 3 w 4) 0 (s.1 3 w 1) ∧ 0 ≤ (s.1 3 w 7).toInt ∧ (s.1 3 w 7).toInt ≤ 80 * k
def IW (k : Nat) (s : Sx) : Prop := s.1 0 14 1 = s.1 6 0 35 ∧ s.1 0 14 1 = nI (s.2.2 4) ∧ s.2.2 5 = s.2.2 4 ∧ s.2.2 4 ≤ 8 ∧ (∀ w, w < s.2.2 4 → iw1 s w ∧ iw2 k s w) ∧ s.1 0 16 = s.1 5 44 ∧ al (s.1 0 16) 0 2 ∧ s.1 0 14 3 = s.1 6 0 45 ∧ wi (s.1 0 14 3) 1 8 ∧ s.1 0 14 4 = s.1 6 0 46 ∧ 0 ≤ (s.1 0 14 4).toInt ∧ (s.1 0 14 4).toInt ≤ k ∧ s.1 0 17 = s.1 5 47 ∧ s.1 0 18 = s.1 5 48 ∧ al (s.1 0 17) 0 99 ∧ ∀ i, i < 5 → wi (s.1 0 18 i) 1 99
def IT (s : Sx) : Prop := s.1 0 19 4 = s.1 6 0 50 ∧ wi (s.1 0 19 4) 0 12 ∧ s.1 0 20 = s.1 5 51 ∧ s.1 0 21 = s.1 5 52 ∧ s.1 0 22 = s.1 5 53 ∧ s.1 0 23 = s.1 5 54 ∧ al (s.1 0 20) 0 3 ∧ al (s.1 0 21) 0 2 ∧ al (s.1 0 22) 0 99999 ∧ al (s.1 0 23) 0 60 ∧ ∀ i, i < 24 → s.1 0 24 i = s.1 5 49 i ∧ wi (s.1 0 24 i) 0 100
def IF (s : Sx) : Prop := s.1 0 25 4 = s.1 6 0 55 ∧ wi (s.1 0 25 4) 0 3 ∧ s.1 0 26 = s.1 5 56 ∧ s.1 0 27 = s.1 5 57 ∧ s.1 0 28 = s.1 5 58 ∧ s.1 0 29 = s.1 5 59 ∧ al (s.1 0 26) 0 40 ∧ al (s.1 0 27) 0 40 ∧ al (s.1 0 28) 0 60 ∧ al (s.1 0 29) 0 99 ∧ ∀ i, i < (s.1 0 25 4).toNatClampNeg → wi (s.1 0 28 i) 1 60
def IL (s : Sx) : Prop := s.1 0 34 4 = s.1 6 0 63 ∧ wi (s.1 0 34 4) 0 8 ∧ s.1 0 35 = s.1 5 64 ∧ s.1 0 36 = s.1 5 65 ∧ s.1 0 37 = s.1 5 66 ∧ s.1 0 38 = s.1 5 67 ∧ al (s.1 0 35) 0 40 ∧ al (s.1 0 36) 0 40 ∧ al (s.1 0 37) 0 999 ∧ al (s.1 0 38) 0 1
/-- the sheet k: nothing in both, or the same row -/
def is1 (s : Sx) (k : Nat) : Prop := (s.1 0 (42 + k) 1 = (-1) ∧ s.1 5 2 k = (-9) ∨ s.1 0 (42 + k) 1 = s.1 5 2 k ∧ wi (s.1 5 2 k) 0 2 ∧ s.1 0 (42 + k) 2 = s.1 5 3 k ∧ wi (s.1 5 3 k) 0 60) ∧ ∀ i, i < 60 → s.1 0 (46 + k) i = s.1 5 4 (60 * k + i)
def IS (s : Sx) : Prop := is1 s 0 ∧ is1 s 1 ∧ is1 s 2 ∧ is1 s 3
/-- class and reference agree, behind k calls -/
def Inv (k : Nat) (s : Sx) : Prop := IC s ∧ IM s ∧ IP s ∧ IZ s ∧ IR s ∧ IY s ∧ IW k s ∧ IT s ∧ IF s ∧ IL s ∧ IS s
theorem IW.up {k : Nat} {s : Sx} (h : IW k s) : IW (k + 1) s := by
  obtain ⟨h1, h2, h3, h4, h5, h6, h7, h8, h9, h10, h11, h12, h13⟩ := h
  exact ⟨h1, h2, h3, h4, fun w hw => ⟨(h5 w hw).1, (h5 w hw).2.1, (h5 w hw).2.2.1, (h5 w hw).2.2.2.1, (h5 w hw).2.2.2.2.1, (h5 w hw).2.2.2.2.2.1, by have := (h5 w hw).2.2.2.2.2.2; omega⟩, h6, h7, h8, h9, h10, h11, by omega, h13⟩
theorem Inv.up {k : Nat} {s : Sx} (h : Inv k s) : Inv (k + 1) s := ⟨h.1, h.2.1, h.2.2.1, h.2.2.2.1, h.2.2.2.2.1, h.2.2.2.2.2.1, h.2.2.2.2.2.2.1.up, h.2.2.2.2.2.2.2⟩
theorem rdI (s : Sx) (k j i : Nat) (v : Int32) (k' j' : Nat) : (setI s k j i v).1 k' j' = if k' = k ∧ j' = j then upd (s.1 k j) i v else s.1 k' j' := rfl
theorem rdI2 (s : Sx) (k j i : Nat) (v : Int32) : (setI s k j i v).2 = s.2 := rfl
theorem rdU (f : Nat → Int32) (k : Nat) (x : Int32) (j : Nat) : upd f k x j = if j = k then x else f j := rfl
theorem i0e0 : ((0 : Int32) = 0) = True := by simp
theorem rdJ (s : Sx) (k j i : Nat) (v : Int64) (k' j' : Nat) : (setJ s k j i v).2.1 k' j' = if k' = k ∧ j' = j then vp_updL (s.2.1 k j) i v else s.2.1 k' j' := rfl
theorem rdJ1 (s : Sx) (k j i : Nat) (v : Int64) : (setJ s k j i v).1 = s.1 ∧ (setJ s k j i v).2.2 = s.2.2 := ⟨rfl, rfl⟩
theorem rdD (s : Sx) (kd cn k j : Nat) : (newD s kd cn).1 k j = if k = kd ∧ j = s.2.2 cn then (fun _ => 0) else s.1 k j := rfl
theorem rdD2 (s : Sx) (kd cn i : Nat) : (newD s kd cn).2.2 i = if i = cn then s.2.2 cn + 1 else s.2.2 i := rfl
theorem rdD3 (s : Sx) (kd cn : Nat) : (newD s kd cn).2.1 = s.2.1 := rfl
theorem rdN (s : Sx) (i v j : Nat) : (setN s i v).2.2 j = if j = i then v else s.2.2 j := rfl
theorem rdN1 (s : Sx) (i v : Nat) : (setN s i v).1 = s.1 ∧ (setN s i v).2.1 = s.2.1 := ⟨rfl, rfl⟩
theorem IC.of {s S : Sx} (h0 : S.1 0 1 4 = s.1 0 1 4) (h1 : S.1 6 0 5 = s.1 6 0 5) (h2 : S.1 0 2 = s.1 0 2) (h3 : S.1 0 3 = s.1 0 3) (h4 : S.1 0 4 = s.1 0 4) (h5 : S.1 0 5 = s.1 0 5) (h6 : S.1 5 6 = s.1 5 6) (h7 : S.1 5 7 = s.1 5 7) (h8 : S.1 5 8 = s.1 5 8) (h9 : S.1 5 60 = s.1 5 60) (h : IC s) : IC S := by
  unfold IC at h ⊢
  rw [h0, h1, h2, h3, h4, h5, h6, h7, h8, h9]
  exact h
theorem IM.of {s S : Sx} (h0 : S.1 0 0 1 = s.1 0 0 1) (h1 : S.1 6 0 9 = s.1 6 0 9) (h : IM s) : IM S := by
  unfold IM at h ⊢
  rw [h0, h1]
  exact h
theorem IP.of {s S : Sx} (h0 : S.1 0 0 3 = s.1 0 0 3) (h1 : S.1 6 0 10 = s.1 6 0 10) (h2 : S.2.2 0 = s.2.2 0) (h3 : S.2.2 1 = s.2.2 1) (h4 : S.1 1 = s.1 1) (h5 : S.1 5 11 = s.1 5 11) (h6 : S.1 5 12 = s.1 5 12) (h7 : S.1 5 13 = s.1 5 13) (h8 : S.1 5 14 = s.1 5 14) (h9 : S.1 5 15 = s.1 5 15) (h : IP s) : IP S := by
  unfold IP ip1 ip2 ip3 at h ⊢
  rw [h0, h1, h2, h3, h4, h5, h6, h7, h8, h9]
  exact h
theorem IZ.of {s S : Sx} (h0 : S.1 0 0 4 = s.1 0 0 4) (h1 : S.1 6 0 1 = s.1 6 0 1) (h2 : S.1 0 0 14 = s.1 0 0 14) (h3 : S.1 6 0 0 = s.1 6 0 0) (h : IZ s) : IZ S := by
  unfold IZ at h ⊢
  rw [h0, h1, h2, h3]
  exact h
theorem IR.of {s S : Sx} (h0 : S.1 0 0 7 = s.1 0 0 7) (h1 : S.1 6 0 16 = s.1 6 0 16) (h2 : S.2.2 2 = s.2.2 2) (h3 : S.2.2 3 = s.2.2 3) (h4 : S.1 2 = s.1 2) (h5 : S.1 5 17 = s.1 5 17) (h6 : S.1 5 18 = s.1 5 18) (h7 : S.1 5 19 = s.1 5 19) (h8 : S.1 5 20 = s.1 5 20) (h9 : S.1 5 21 = s.1 5 21) (h10 : S.1 5 22 = s.1 5 22) (h11 : S.1 5 23 = s.1 5 23) (h12 : S.1 0 7 = s.1 0 7) (h13 : S.1 5 24 = s.1 5 24) (h : IR s) : IR S := by
  unfold IR io1 io2 at h ⊢
  rw [h0, h1, h2, h3, h4, h5, h6, h7, h8, h9, h10, h11, h12, h13]
  exact h
theorem IY.of {s S : Sx} (h0 : S.1 0 10 = s.1 0 10) (h1 : S.1 5 28 = s.1 5 28) (h2 : S.1 0 9 1 = s.1 0 9 1) (h3 : S.1 6 0 29 = s.1 6 0 29) (h4 : S.1 0 9 2 = s.1 0 9 2) (h5 : S.1 6 0 30 = s.1 6 0 30) (h6 : S.1 0 9 6 = s.1 0 9 6) (h7 : S.1 6 0 31 = s.1 6 0 31) (h8 : S.1 0 11 = s.1 0 11) (h9 : S.1 0 12 = s.1 0 12) (h10 : S.1 0 13 = s.1 0 13) (h11 : S.1 5 32 = s.1 5 32) (h12 : S.1 5 33 = s.1 5 33) (h13 : S.1 5 34 = s.1 5 34) (h : IY s) : IY S := by
  unfold IY at h ⊢
  rw [h0, h1, h2, h3, h4, h5, h6, h7, h8, h9, h10, h11, h12, h13]
  exact h
theorem IW.of {k : Nat} {s S : Sx} (h0 : S.1 0 14 1 = s.1 0 14 1) (h1 : S.1 6 0 35 = s.1 6 0 35) (h2 : S.2.2 4 = s.2.2 4) (h3 : S.2.2 5 = s.2.2 5) (h4 : S.1 3 = s.1 3) (h5 : S.1 5 36 = s.1 5 36) (h6 : S.1 5 37 = s.1 5 37) (h7 : S.1 5 38 = s.1 5 38) (h8 : S.1 5 39 = s.1 5 39) (h9 : S.1 5 40 = s.1 5 40) (h10 : S.1 5 41 = s.1 5 41) (h11 : S.1 5 42 = s.1 5 42) (h12 : S.1 5 43 = s.1 5 43) (h13 : S.1 0 16 = s.1 0 16) (h14 : S.1 5 44 = s.1 5 44) (h15 : S.1 0 14 3 = s.1 0 14 3) (h16 : S.1 6 0 45 = s.1 6 0 45) (h17 : S.1 0 14 4 = s.1 0 14 4) (h18 : S.1 6 0 46 = s.1 6 0 46) (h19 : S.1 0 17 = s.1 0 17) (h20 : S.1 5 47 = s.1 5 47) (h21 : S.1 0 18 = s.1 0 18) (h22 : S.1 5 48 = s.1 5 48) (h : IW k s) : IW k S := by
  unfold IW iw1 iw2 at h ⊢
  rw [h0, h1, h2, h3, h4, h5, h6, h7, h8, h9, h10, h11, h12, h13, h14, h15, h16, h17, h18, h19, h20, h21, h22]
  exact h
theorem IT.of {s S : Sx} (h0 : S.1 0 19 4 = s.1 0 19 4) (h1 : S.1 6 0 50 = s.1 6 0 50) (h2 : S.1 0 20 = s.1 0 20) (h3 : S.1 0 21 = s.1 0 21) (h4 : S.1 0 22 = s.1 0 22) (h5 : S.1 0 23 = s.1 0 23) (h6 : S.1 0 24 = s.1 0 24) (h7 : S.1 5 51 = s.1 5 51) (h8 : S.1 5 52 = s.1 5 52) (h9 : S.1 5 53 = s.1 5 53) (h10 : S.1 5 54 = s.1 5 54) (h11 : S.1 5 49 = s.1 5 49) (h : IT s) : IT S := by
  unfold IT at h ⊢
  rw [h0, h1, h2, h3, h4, h5, h6, h7, h8, h9, h10, h11]
  exact h
theorem IF.of {s S : Sx} (h0 : S.1 0 25 4 = s.1 0 25 4) (h1 : S.1 6 0 55 = s.1 6 0 55) (h2 : S.1 0 26 = s.1 0 26) (h3 : S.1 0 27 = s.1 0 27) (h4 : S.1 0 28 = s.1 0 28) (h5 : S.1 0 29 = s.1 0 29) (h6 : S.1 5 56 = s.1 5 56) (h7 : S.1 5 57 = s.1 5 57) (h8 : S.1 5 58 = s.1 5 58) (h9 : S.1 5 59 = s.1 5 59) (h : IF s) : IF S := by
  unfold IF at h ⊢
  rw [h0, h1, h2, h3, h4, h5, h6, h7, h8, h9]
  exact h
theorem IL.of {s S : Sx} (h0 : S.1 0 34 4 = s.1 0 34 4) (h1 : S.1 6 0 63 = s.1 6 0 63) (h2 : S.1 0 35 = s.1 0 35) (h3 : S.1 0 36 = s.1 0 36) (h4 : S.1 0 37 = s.1 0 37) (h5 : S.1 0 38 = s.1 0 38) (h6 : S.1 5 64 = s.1 5 64) (h7 : S.1 5 65 = s.1 5 65) (h8 : S.1 5 66 = s.1 5 66) (h9 : S.1 5 67 = s.1 5 67) (h : IL s) : IL S := by
  unfold IL at h ⊢
  rw [h0, h1, h2, h3, h4, h5, h6, h7, h8, h9]
  exact h
theorem IS.of {s S : Sx} (h0 : S.1 0 42 = s.1 0 42) (h1 : S.1 0 43 = s.1 0 43) (h2 : S.1 0 44 = s.1 0 44) (h3 : S.1 0 45 = s.1 0 45) (h4 : S.1 0 46 = s.1 0 46) (h5 : S.1 0 47 = s.1 0 47) (h6 : S.1 0 48 = s.1 0 48) (h7 : S.1 0 49 = s.1 0 49) (h8 : S.1 5 2 = s.1 5 2) (h9 : S.1 5 3 = s.1 5 3) (h10 : S.1 5 4 = s.1 5 4) (h : IS s) : IS S := by
  unfold IS is1 at h ⊢
  simp only [Nat.reduceAdd, Nat.add_zero] at h ⊢
  rw [h0, h1, h2, h3, h4, h5, h6, h7, h8, h9, h10]
  exact h
