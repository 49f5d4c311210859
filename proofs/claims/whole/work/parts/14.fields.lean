theorem vp_in_lt {i : Int32} {n : Nat} (h : vp_in i n) : i.toNatClampNeg < n := by
  rcases Nat.lt_or_ge i.toNatClampNeg n with q | q
  · exact q
  · exact absurd (Or.inr q) h
theorem f0_0 : ((0, 0) : Nat × Nat) ∈ fxl := by decide
theorem f0_1 : ((0, 1) : Nat × Nat) ∈ fxl := by decide
theorem f0_2 : ((0, 2) : Nat × Nat) ∈ fxl := by decide
theorem f0_3 : ((0, 3) : Nat × Nat) ∈ fxl := by decide
theorem f0_4 : ((0, 4) : Nat × Nat) ∈ fxl := by decide
theorem f0_5 : ((0, 5) : Nat × Nat) ∈ fxl := by decide
theorem f0_6 : ((0, 6) : Nat × Nat) ∈ fxl := by decide
theorem f0_7 : ((0, 7) : Nat × Nat) ∈ fxl := by decide
theorem f0_8 : ((0, 8) : Nat × Nat) ∈ fxl := by decide
theorem f0_9 : ((0, 9) : Nat × Nat) ∈ fxl := by decide
theorem f0_10 : ((0, 10) : Nat × Nat) ∈ fxl := by decide
theorem f0_11 : ((0, 11) : Nat × Nat) ∈ fxl := by decide
theorem f0_12 : ((0, 12) : Nat × Nat) ∈ fxl := by decide
theorem f0_13 : ((0, 13) : Nat × Nat) ∈ fxl := by decide
theorem f0_14 : ((0, 14) : Nat × Nat) ∈ fxl := by decide
theorem f0_15 : ((0, 15) : Nat × Nat) ∈ fxl := by decide
theorem f0_16 : ((0, 16) : Nat × Nat) ∈ fxl := by decide
theorem f0_17 : ((0, 17) : Nat × Nat) ∈ fxl := by decide
theorem f0_18 : ((0, 18) : Nat × Nat) ∈ fxl := by decide
theorem f0_19 : ((0, 19) : Nat × Nat) ∈ fxl := by decide
theorem f0_20 : ((0, 20) : Nat × Nat) ∈ fxl := by decide
theorem f0_21 : ((0, 21) : Nat × Nat) ∈ fxl := by decide
theorem f0_22 : ((0, 22) : Nat × Nat) ∈ fxl := by decide
theorem f0_23 : ((0, 23) : Nat × Nat) ∈ fxl := by decide
theorem f0_24 : ((0, 24) : Nat × Nat) ∈ fxl := by decide
theorem f0_25 : ((0, 25) : Nat × Nat) ∈ fxl := by decide
theorem f0_26 : ((0, 26) : Nat × Nat) ∈ fxl := by decide
theorem f0_27 : ((0, 27) : Nat × Nat) ∈ fxl := by decide
theorem f0_28 : ((0, 28) : Nat × Nat) ∈ fxl := by decide
theorem f0_29 : ((0, 29) : Nat × Nat) ∈ fxl := by decide
theorem f0_30 : ((0, 30) : Nat × Nat) ∈ fxl := by decide
theorem f0_31 : ((0, 31) : Nat × Nat) ∈ fxl := by decide
theorem f0_32 : ((0, 32) : Nat × Nat) ∈ fxl := by decide
theorem f0_33 : ((0, 33) : Nat × Nat) ∈ fxl := by decide
theorem f0_34 : ((0, 34) : Nat × Nat) ∈ fxl := by decide
theorem f0_35 : ((0, 35) : Nat × Nat) ∈ fxl := by decide
theorem f0_36 : ((0, 36) : Nat × Nat) ∈ fxl := by decide
theorem f0_37 : ((0, 37) : Nat × Nat) ∈ fxl := by decide
theorem f0_38 : ((0, 38) : Nat × Nat) ∈ fxl := by decide
theorem f0_39 : ((0, 39) : Nat × Nat) ∈ fxl := by decide
theorem f0_40 : ((0, 40) : Nat × Nat) ∈ fxl := by decide
theorem f0_41 : ((0, 41) : Nat × Nat) ∈ fxl := by decide
theorem f0_42 : ((0, 42) : Nat × Nat) ∈ fxl := by decide
theorem f0_43 : ((0, 43) : Nat × Nat) ∈ fxl := by decide
theorem f0_44 : ((0, 44) : Nat × Nat) ∈ fxl := by decide
theorem f0_45 : ((0, 45) : Nat × Nat) ∈ fxl := by decide
theorem f0_46 : ((0, 46) : Nat × Nat) ∈ fxl := by decide
theorem f0_47 : ((0, 47) : Nat × Nat) ∈ fxl := by decide
theorem f0_48 : ((0, 48) : Nat × Nat) ∈ fxl := by decide
theorem f0_49 : ((0, 49) : Nat × Nat) ∈ fxl := by decide
theorem f5_2 : ((5, 2) : Nat × Nat) ∈ fxl := by decide
theorem f5_3 : ((5, 3) : Nat × Nat) ∈ fxl := by decide
theorem f5_4 : ((5, 4) : Nat × Nat) ∈ fxl := by decide
theorem f5_6 : ((5, 6) : Nat × Nat) ∈ fxl := by decide
theorem f5_7 : ((5, 7) : Nat × Nat) ∈ fxl := by decide
theorem f5_8 : ((5, 8) : Nat × Nat) ∈ fxl := by decide
theorem f5_11 : ((5, 11) : Nat × Nat) ∈ fxl := by decide
theorem f5_12 : ((5, 12) : Nat × Nat) ∈ fxl := by decide
theorem f5_13 : ((5, 13) : Nat × Nat) ∈ fxl := by decide
theorem f5_14 : ((5, 14) : Nat × Nat) ∈ fxl := by decide
theorem f5_15 : ((5, 15) : Nat × Nat) ∈ fxl := by decide
theorem f5_17 : ((5, 17) : Nat × Nat) ∈ fxl := by decide
theorem f5_18 : ((5, 18) : Nat × Nat) ∈ fxl := by decide
theorem f5_19 : ((5, 19) : Nat × Nat) ∈ fxl := by decide
theorem f5_20 : ((5, 20) : Nat × Nat) ∈ fxl := by decide
theorem f5_21 : ((5, 21) : Nat × Nat) ∈ fxl := by decide
theorem f5_22 : ((5, 22) : Nat × Nat) ∈ fxl := by decide
theorem f5_23 : ((5, 23) : Nat × Nat) ∈ fxl := by decide
theorem f5_24 : ((5, 24) : Nat × Nat) ∈ fxl := by decide
theorem f5_28 : ((5, 28) : Nat × Nat) ∈ fxl := by decide
theorem f5_32 : ((5, 32) : Nat × Nat) ∈ fxl := by decide
theorem f5_33 : ((5, 33) : Nat × Nat) ∈ fxl := by decide
theorem f5_34 : ((5, 34) : Nat × Nat) ∈ fxl := by decide
theorem f5_36 : ((5, 36) : Nat × Nat) ∈ fxl := by decide
theorem f5_37 : ((5, 37) : Nat × Nat) ∈ fxl := by decide
theorem f5_38 : ((5, 38) : Nat × Nat) ∈ fxl := by decide
theorem f5_39 : ((5, 39) : Nat × Nat) ∈ fxl := by decide
theorem f5_40 : ((5, 40) : Nat × Nat) ∈ fxl := by decide
theorem f5_41 : ((5, 41) : Nat × Nat) ∈ fxl := by decide
theorem f5_42 : ((5, 42) : Nat × Nat) ∈ fxl := by decide
theorem f5_43 : ((5, 43) : Nat × Nat) ∈ fxl := by decide
theorem f5_44 : ((5, 44) : Nat × Nat) ∈ fxl := by decide
theorem f5_47 : ((5, 47) : Nat × Nat) ∈ fxl := by decide
theorem f5_48 : ((5, 48) : Nat × Nat) ∈ fxl := by decide
theorem f5_49 : ((5, 49) : Nat × Nat) ∈ fxl := by decide
theorem f5_51 : ((5, 51) : Nat × Nat) ∈ fxl := by decide
theorem f5_52 : ((5, 52) : Nat × Nat) ∈ fxl := by decide
theorem f5_53 : ((5, 53) : Nat × Nat) ∈ fxl := by decide
theorem f5_54 : ((5, 54) : Nat × Nat) ∈ fxl := by decide
theorem f5_56 : ((5, 56) : Nat × Nat) ∈ fxl := by decide
theorem f5_57 : ((5, 57) : Nat × Nat) ∈ fxl := by decide
theorem f5_58 : ((5, 58) : Nat × Nat) ∈ fxl := by decide
theorem f5_59 : ((5, 59) : Nat × Nat) ∈ fxl := by decide
theorem f5_60 : ((5, 60) : Nat × Nat) ∈ fxl := by decide
theorem f5_61 : ((5, 61) : Nat × Nat) ∈ fxl := by decide
theorem f5_62 : ((5, 62) : Nat × Nat) ∈ fxl := by decide
theorem f5_64 : ((5, 64) : Nat × Nat) ∈ fxl := by decide
theorem f5_65 : ((5, 65) : Nat × Nat) ∈ fxl := by decide
theorem f5_66 : ((5, 66) : Nat × Nat) ∈ fxl := by decide
theorem f5_67 : ((5, 67) : Nat × Nat) ∈ fxl := by decide
theorem f5_68 : ((5, 68) : Nat × Nat) ∈ fxl := by decide
theorem f5_69 : ((5, 69) : Nat × Nat) ∈ fxl := by decide
theorem f5_70 : ((5, 70) : Nat × Nat) ∈ fxl := by decide
theorem f6_0 : ((6, 0) : Nat × Nat) ∈ fxl := by decide
/-- a fixed row of ints, of longs, of booleans, and its length -/
def IA (k j n : Nat) : Prop := (k, j) ∈ fxl ∧ ∀ (G : Gx) (a : Ax) (m : Nat → Nat) (ri : Nat → Int32) (rl : Nat → Int64), ctf G a m k j ri rl = .inl (G.2.2.1 0, n, .inl ri)
def JA (k j n : Nat) : Prop := (k, j) ∈ fxl ∧ ∀ (G : Gx) (a : Ax) (m : Nat → Nat) (ri : Nat → Int32) (rl : Nat → Int64), ctf G a m k j ri rl = .inl (G.2.2.1 1, n, .inr (.inl rl))
def ZA (k j n : Nat) : Prop := (k, j) ∈ fxl ∧ ∀ (G : Gx) (a : Ax) (m : Nat → Nat) (ri : Nat → Int32) (rl : Nat → Int64), ctf G a m k j ri rl = .inl (G.2.2.1 2, n, .inl ri)
theorem ob0_0 (G : Gx) (a : Ax) (n : Nat → Nat) (ri : Nat → Int32) (rl : Nat → Int64) : ∃ fs, ctf G a n 0 0 ri rl = .inr (11, fs) := ⟨_, rfl⟩
theorem ob0_1 (G : Gx) (a : Ax) (n : Nat → Nat) (ri : Nat → Int32) (rl : Nat → Int64) : ∃ fs, ctf G a n 0 1 ri rl = .inr (0, fs) := ⟨_, rfl⟩
theorem ra0_2 : IA 0 2 7 := ⟨f0_2, fun _ _ _ _ _ => rfl⟩
theorem ra0_3 : IA 0 3 7 := ⟨f0_3, fun _ _ _ _ _ => rfl⟩
theorem ra0_4 : IA 0 4 7 := ⟨f0_4, fun _ _ _ _ _ => rfl⟩
theorem ra0_5 : IA 0 5 7 := ⟨f0_5, fun _ _ _ _ _ => rfl⟩
theorem ra0_7 : IA 0 7 5 := ⟨f0_7, fun _ _ _ _ _ => rfl⟩
theorem ob0_9 (G : Gx) (a : Ax) (n : Nat → Nat) (ri : Nat → Int32) (rl : Nat → Int64) : ∃ fs, ctf G a n 0 9 ri rl = .inr (4, fs) := ⟨_, rfl⟩
theorem ra0_10 : IA 0 10 3 := ⟨f0_10, fun _ _ _ _ _ => rfl⟩
theorem ra0_11 : IA 0 11 30 := ⟨f0_11, fun _ _ _ _ _ => rfl⟩
theorem ra0_12 : IA 0 12 30 := ⟨f0_12, fun _ _ _ _ _ => rfl⟩
theorem ra0_13 : IA 0 13 30 := ⟨f0_13, fun _ _ _ _ _ => rfl⟩
theorem ob0_14 (G : Gx) (a : Ax) (n : Nat → Nat) (ri : Nat → Int32) (rl : Nat → Int64) : ∃ fs, ctf G a n 0 14 ri rl = .inr (10, fs) := ⟨_, rfl⟩
theorem ra0_16 : IA 0 16 8 := ⟨f0_16, fun _ _ _ _ _ => rfl⟩
theorem ra0_17 : IA 0 17 5 := ⟨f0_17, fun _ _ _ _ _ => rfl⟩
theorem ra0_18 : IA 0 18 5 := ⟨f0_18, fun _ _ _ _ _ => rfl⟩
theorem ob0_19 (G : Gx) (a : Ax) (n : Nat → Nat) (ri : Nat → Int32) (rl : Nat → Int64) : ∃ fs, ctf G a n 0 19 ri rl = .inr (8, fs) := ⟨_, rfl⟩
theorem ra0_20 : IA 0 20 12 := ⟨f0_20, fun _ _ _ _ _ => rfl⟩
theorem ra0_21 : IA 0 21 12 := ⟨f0_21, fun _ _ _ _ _ => rfl⟩
theorem ra0_22 : IA 0 22 12 := ⟨f0_22, fun _ _ _ _ _ => rfl⟩
theorem ra0_23 : IA 0 23 12 := ⟨f0_23, fun _ _ _ _ _ => rfl⟩
theorem ra0_24 : IA 0 24 24 := ⟨f0_24, fun _ _ _ _ _ => rfl⟩
theorem ob0_25 (G : Gx) (a : Ax) (n : Nat → Nat) (ri : Nat → Int32) (rl : Nat → Int64) : ∃ fs, ctf G a n 0 25 ri rl = .inr (1, fs) := ⟨_, rfl⟩
theorem ra0_26 : IA 0 26 3 := ⟨f0_26, fun _ _ _ _ _ => rfl⟩
theorem ra0_27 : IA 0 27 3 := ⟨f0_27, fun _ _ _ _ _ => rfl⟩
theorem ra0_28 : IA 0 28 3 := ⟨f0_28, fun _ _ _ _ _ => rfl⟩
theorem ra0_29 : IA 0 29 3 := ⟨f0_29, fun _ _ _ _ _ => rfl⟩
theorem ra0_30 : IA 0 30 7 := ⟨f0_30, fun _ _ _ _ _ => rfl⟩
theorem ra0_31 : IA 0 31 7 := ⟨f0_31, fun _ _ _ _ _ => rfl⟩
theorem ra0_32 : JA 0 32 128 := ⟨f0_32, fun _ _ _ _ _ => rfl⟩
theorem ra0_33 : JA 0 33 128 := ⟨f0_33, fun _ _ _ _ _ => rfl⟩
theorem ob0_34 (G : Gx) (a : Ax) (n : Nat → Nat) (ri : Nat → Int32) (rl : Nat → Int64) : ∃ fs, ctf G a n 0 34 ri rl = .inr (5, fs) := ⟨_, rfl⟩
theorem ra0_35 : IA 0 35 8 := ⟨f0_35, fun _ _ _ _ _ => rfl⟩
theorem ra0_36 : IA 0 36 8 := ⟨f0_36, fun _ _ _ _ _ => rfl⟩
theorem ra0_37 : IA 0 37 8 := ⟨f0_37, fun _ _ _ _ _ => rfl⟩
theorem ra0_38 : ZA 0 38 8 := ⟨f0_38, fun _ _ _ _ _ => rfl⟩
theorem ra0_39 : IA 0 39 256 := ⟨f0_39, fun _ _ _ _ _ => rfl⟩
theorem ra0_40 : IA 0 40 7 := ⟨f0_40, fun _ _ _ _ _ => rfl⟩
theorem ob0_42 (G : Gx) (a : Ax) (n : Nat → Nat) (ri : Nat → Int32) (rl : Nat → Int64) : ∃ fs, ctf G a n 0 42 ri rl = .inr (7, fs) := ⟨_, rfl⟩
theorem ob0_43 (G : Gx) (a : Ax) (n : Nat → Nat) (ri : Nat → Int32) (rl : Nat → Int64) : ∃ fs, ctf G a n 0 43 ri rl = .inr (7, fs) := ⟨_, rfl⟩
theorem ob0_44 (G : Gx) (a : Ax) (n : Nat → Nat) (ri : Nat → Int32) (rl : Nat → Int64) : ∃ fs, ctf G a n 0 44 ri rl = .inr (7, fs) := ⟨_, rfl⟩
theorem ob0_45 (G : Gx) (a : Ax) (n : Nat → Nat) (ri : Nat → Int32) (rl : Nat → Int64) : ∃ fs, ctf G a n 0 45 ri rl = .inr (7, fs) := ⟨_, rfl⟩
theorem ra0_46 : IA 0 46 60 := ⟨f0_46, fun _ _ _ _ _ => rfl⟩
theorem ra0_47 : IA 0 47 60 := ⟨f0_47, fun _ _ _ _ _ => rfl⟩
theorem ra0_48 : IA 0 48 60 := ⟨f0_48, fun _ _ _ _ _ => rfl⟩
theorem ra0_49 : IA 0 49 60 := ⟨f0_49, fun _ _ _ _ _ => rfl⟩
theorem ra5_2 : IA 5 2 4 := ⟨f5_2, fun _ _ _ _ _ => rfl⟩
theorem ra5_3 : IA 5 3 4 := ⟨f5_3, fun _ _ _ _ _ => rfl⟩
theorem ra5_4 : IA 5 4 240 := ⟨f5_4, fun _ _ _ _ _ => rfl⟩
theorem ra5_6 : IA 5 6 7 := ⟨f5_6, fun _ _ _ _ _ => rfl⟩
theorem ra5_7 : IA 5 7 7 := ⟨f5_7, fun _ _ _ _ _ => rfl⟩
theorem ra5_8 : IA 5 8 7 := ⟨f5_8, fun _ _ _ _ _ => rfl⟩
theorem ra5_11 : IA 5 11 30 := ⟨f5_11, fun _ _ _ _ _ => rfl⟩
theorem ra5_12 : IA 5 12 30 := ⟨f5_12, fun _ _ _ _ _ => rfl⟩
theorem ra5_13 : IA 5 13 30 := ⟨f5_13, fun _ _ _ _ _ => rfl⟩
theorem ra5_14 : IA 5 14 30 := ⟨f5_14, fun _ _ _ _ _ => rfl⟩
theorem ra5_15 : IA 5 15 30 := ⟨f5_15, fun _ _ _ _ _ => rfl⟩
theorem ra5_17 : IA 5 17 13 := ⟨f5_17, fun _ _ _ _ _ => rfl⟩
theorem ra5_18 : IA 5 18 13 := ⟨f5_18, fun _ _ _ _ _ => rfl⟩
theorem ra5_19 : IA 5 19 13 := ⟨f5_19, fun _ _ _ _ _ => rfl⟩
theorem ra5_20 : IA 5 20 13 := ⟨f5_20, fun _ _ _ _ _ => rfl⟩
theorem ra5_21 : IA 5 21 13 := ⟨f5_21, fun _ _ _ _ _ => rfl⟩
theorem ra5_22 : IA 5 22 13 := ⟨f5_22, fun _ _ _ _ _ => rfl⟩
theorem ra5_23 : IA 5 23 13 := ⟨f5_23, fun _ _ _ _ _ => rfl⟩
theorem ra5_24 : IA 5 24 5 := ⟨f5_24, fun _ _ _ _ _ => rfl⟩
theorem ra5_28 : IA 5 28 3 := ⟨f5_28, fun _ _ _ _ _ => rfl⟩
theorem ra5_32 : IA 5 32 30 := ⟨f5_32, fun _ _ _ _ _ => rfl⟩
theorem ra5_33 : IA 5 33 30 := ⟨f5_33, fun _ _ _ _ _ => rfl⟩
theorem ra5_34 : IA 5 34 30 := ⟨f5_34, fun _ _ _ _ _ => rfl⟩
theorem ra5_36 : IA 5 36 8 := ⟨f5_36, fun _ _ _ _ _ => rfl⟩
theorem ra5_37 : IA 5 37 8 := ⟨f5_37, fun _ _ _ _ _ => rfl⟩
theorem ra5_38 : IA 5 38 8 := ⟨f5_38, fun _ _ _ _ _ => rfl⟩
theorem ra5_39 : IA 5 39 8 := ⟨f5_39, fun _ _ _ _ _ => rfl⟩
theorem ra5_40 : IA 5 40 8 := ⟨f5_40, fun _ _ _ _ _ => rfl⟩
theorem ra5_41 : IA 5 41 8 := ⟨f5_41, fun _ _ _ _ _ => rfl⟩
theorem ra5_42 : IA 5 42 8 := ⟨f5_42, fun _ _ _ _ _ => rfl⟩
theorem ra5_43 : IA 5 43 8 := ⟨f5_43, fun _ _ _ _ _ => rfl⟩
theorem ra5_44 : IA 5 44 8 := ⟨f5_44, fun _ _ _ _ _ => rfl⟩
theorem ra5_47 : IA 5 47 5 := ⟨f5_47, fun _ _ _ _ _ => rfl⟩
theorem ra5_48 : IA 5 48 5 := ⟨f5_48, fun _ _ _ _ _ => rfl⟩
theorem ra5_49 : IA 5 49 24 := ⟨f5_49, fun _ _ _ _ _ => rfl⟩
theorem ra5_51 : IA 5 51 12 := ⟨f5_51, fun _ _ _ _ _ => rfl⟩
theorem ra5_52 : IA 5 52 12 := ⟨f5_52, fun _ _ _ _ _ => rfl⟩
theorem ra5_53 : IA 5 53 12 := ⟨f5_53, fun _ _ _ _ _ => rfl⟩
theorem ra5_54 : IA 5 54 12 := ⟨f5_54, fun _ _ _ _ _ => rfl⟩
theorem ra5_56 : IA 5 56 3 := ⟨f5_56, fun _ _ _ _ _ => rfl⟩
theorem ra5_57 : IA 5 57 3 := ⟨f5_57, fun _ _ _ _ _ => rfl⟩
theorem ra5_58 : IA 5 58 3 := ⟨f5_58, fun _ _ _ _ _ => rfl⟩
theorem ra5_59 : IA 5 59 3 := ⟨f5_59, fun _ _ _ _ _ => rfl⟩
theorem ra5_60 : IA 5 60 7 := ⟨f5_60, fun _ _ _ _ _ => rfl⟩
theorem ra5_61 : IA 5 61 7 := ⟨f5_61, fun _ _ _ _ _ => rfl⟩
theorem ra5_62 : IA 5 62 21 := ⟨f5_62, fun _ _ _ _ _ => rfl⟩
theorem ra5_64 : IA 5 64 8 := ⟨f5_64, fun _ _ _ _ _ => rfl⟩
theorem ra5_65 : IA 5 65 8 := ⟨f5_65, fun _ _ _ _ _ => rfl⟩
theorem ra5_66 : IA 5 66 8 := ⟨f5_66, fun _ _ _ _ _ => rfl⟩
theorem ra5_67 : ZA 5 67 8 := ⟨f5_67, fun _ _ _ _ _ => rfl⟩
theorem ra5_68 : JA 5 68 256 := ⟨f5_68, fun _ _ _ _ _ => rfl⟩
theorem ra5_69 : IA 5 69 7 := ⟨f5_69, fun _ _ _ _ _ => rfl⟩
theorem ra5_70 : IA 5 70 7 := ⟨f5_70, fun _ _ _ _ _ => rfl⟩
theorem ob1 (p : Nat) (G : Gx) (a : Ax) (n : Nat → Nat) (ri : Nat → Int32) (rl : Nat → Int64) : ∃ fs, ctf G a n 1 p ri rl = .inr (6, fs) := ⟨_, rfl⟩
theorem ob2 (p : Nat) (G : Gx) (a : Ax) (n : Nat → Nat) (ri : Nat → Int32) (rl : Nat → Int64) : ∃ fs, ctf G a n 2 p ri rl = .inr (2, fs) := ⟨_, rfl⟩
theorem ob3 (p : Nat) (G : Gx) (a : Ax) (n : Nat → Nat) (ri : Nat → Int32) (rl : Nat → Int64) : ∃ fs, ctf G a n 3 p ri rl = .inr (9, fs) := ⟨_, rfl⟩
theorem ob4 (p : Nat) (G : Gx) (a : Ax) (n : Nat → Nat) (ri : Nat → Int32) (rl : Nat → Int64) : ∃ fs, ctf G a n 4 p ri rl = .inr (3, fs) := ⟨_, rfl⟩
theorem ob6_0 (G : Gx) (a : Ax) (n : Nat → Nat) (ri : Nat → Int32) (rl : Nat → Int64) : ∃ fs, ctf G a n 6 0 ri rl = .inr (12, fs) := ⟨_, rfl⟩
theorem sh_f {k : Nat} (hk : k < 4) : ((0, 42 + k) : Nat × Nat) ∈ fxl := by
  rcases (show k = 0 ∨ k = 1 ∨ k = 2 ∨ k = 3 by omega) with rfl | rfl | rfl | rfl
  · exact f0_42
  · exact f0_43
  · exact f0_44
  · exact f0_45
theorem sh_c {k : Nat} (hk : k < 4) (G : Gx) (a : Ax) (n : Nat → Nat) (ri : Nat → Int32) (rl : Nat → Int64) : ctf G a n 0 (42 + k) ri rl = .inr (7, [fR G 0 (46 + k), fI ri 1, fI ri 2]) := by
  rcases (show k = 0 ∨ k = 1 ∨ k = 2 ∨ k = 3 by omega) with rfl | rfl | rfl | rfl
  · rfl
  · rfl
  · rfl
  · rfl
theorem ia_sc {k : Nat} (hk : k < 4) : IA 0 (46 + k) 60 := by
  rcases (show k = 0 ∨ k = 1 ∨ k = 2 ∨ k = 3 by omega) with rfl | rfl | rfl | rfl
  · exact ra0_46
  · exact ra0_47
  · exact ra0_48
  · exact ra0_49
theorem sh_o {k : Nat} (hk : k < 4) (G : Gx) (a : Ax) (n : Nat → Nat) (ri : Nat → Int32) (rl : Nat → Int64) : ∃ fs, ctf G a n 0 (42 + k) ri rl = .inr (7, fs) := ⟨_, sh_c hk G a n ri rl⟩
theorem gf_X0_0 {X : Kx} {cc : ByteArray} {nL : Nat} {own : String} {a : Ax} {s : Sx} {lv : List (Nat × Value)} {st : List Value} {ce sl pc ix : Nat} (hC : Cx X cc nL own)  (hw : Cond.fieldLink own ix "CampYears$Camps" "x" "[I" ∈ gw) (hd : decode cc pc = .ok (.getfield ix, 3)) (kk : wk X a s nL (pc + 3) lv (.ref (adr X.G a 0 2) :: st) ce sl) : wk X a s nL pc lv (.ref (adr X.G a 0 1) :: st) ce sl := k_get hC inX0 (ci := 0) rfl (fx_in f0_1) rfl (slot := 0) (by decide) hw rfl hd kk
theorem gf_X0_1 {X : Kx} {cc : ByteArray} {nL : Nat} {own : String} {a : Ax} {s : Sx} {lv : List (Nat × Value)} {st : List Value} {ce sl pc ix : Nat} (hC : Cx X cc nL own)  (hw : Cond.fieldLink own ix "CampYears$Camps" "y" "[I" ∈ gw) (hd : decode cc pc = .ok (.getfield ix, 3)) (kk : wk X a s nL (pc + 3) lv (.ref (adr X.G a 0 3) :: st) ce sl) : wk X a s nL pc lv (.ref (adr X.G a 0 1) :: st) ce sl := k_get hC inX0 (ci := 0) rfl (fx_in f0_1) rfl (slot := 1) (by decide) hw rfl hd kk
theorem gf_X0_2 {X : Kx} {cc : ByteArray} {nL : Nat} {own : String} {a : Ax} {s : Sx} {lv : List (Nat × Value)} {st : List Value} {ce sl pc ix : Nat} (hC : Cx X cc nL own)  (hw : Cond.fieldLink own ix "CampYears$Camps" "beds" "[I" ∈ gw) (hd : decode cc pc = .ok (.getfield ix, 3)) (kk : wk X a s nL (pc + 3) lv (.ref (adr X.G a 0 4) :: st) ce sl) : wk X a s nL pc lv (.ref (adr X.G a 0 1) :: st) ce sl := k_get hC inX0 (ci := 0) rfl (fx_in f0_1) rfl (slot := 2) (by decide) hw rfl hd kk
theorem gf_X0_3 {X : Kx} {cc : ByteArray} {nL : Nat} {own : String} {a : Ax} {s : Sx} {lv : List (Nat × Value)} {st : List Value} {ce sl pc ix : Nat} (hC : Cx X cc nL own)  (hw : Cond.fieldLink own ix "CampYears$Camps" "crew" "[I" ∈ gw) (hd : decode cc pc = .ok (.getfield ix, 3)) (kk : wk X a s nL (pc + 3) lv (.ref (adr X.G a 0 5) :: st) ce sl) : wk X a s nL pc lv (.ref (adr X.G a 0 1) :: st) ce sl := k_get hC inX0 (ci := 0) rfl (fx_in f0_1) rfl (slot := 3) (by decide) hw rfl hd kk
theorem gf_X0_4 {X : Kx} {cc : ByteArray} {nL : Nat} {own : String} {a : Ax} {s : Sx} {lv : List (Nat × Value)} {st : List Value} {ce sl pc ix : Nat} (hC : Cx X cc nL own)  (hw : Cond.fieldLink own ix "CampYears$Camps" "count" "I" ∈ gw) (hd : decode cc pc = .ok (.getfield ix, 3)) (kk : wk X a s nL (pc + 3) lv (.int (s.1 0 1 4) :: st) ce sl) : wk X a s nL pc lv (.ref (adr X.G a 0 1) :: st) ce sl := k_get hC inX0 (ci := 0) rfl (fx_in f0_1) rfl (slot := 4) (by decide) hw rfl hd kk
theorem pf_X0_4 {X : Kx} {cc : ByteArray} {nL : Nat} {own : String} {a : Ax} {s : Sx} {lv : List (Nat × Value)} {st : List Value} {ce sl pc ix : Nat} (hC : Cx X cc nL own)  {v : Int32} (hw : Cond.fieldLink own ix "CampYears$Camps" "count" "I" ∈ gw) (hd : decode cc pc = .ok (.putfield ix, 3)) (kk : ∀ s1, s1 = setI s 0 1 4 v → wk X a s1 nL (pc + 3) lv st ce sl) : wk X a s nL pc lv (.int v :: .ref (adr X.G a 0 1) :: st) ce sl := k_put hC inX0 (ty0 := tyX0) tyX0_ok nmX0 (ci := 0) rfl (fx_in f0_1) rfl rfl (slot := 4) (by decide) hw rfl (by decide +kernel) (Nat.le_of_ble_eq_true rfl) hd (kk _ rfl)
theorem gf_X1_0 {X : Kx} {cc : ByteArray} {nL : Nat} {own : String} {a : Ax} {s : Sx} {lv : List (Nat × Value)} {st : List Value} {ce sl pc ix : Nat} (hC : Cx X cc nL own)  (hw : Cond.fieldLink own ix "CampYears$Fires" "x" "[I" ∈ gw) (hd : decode cc pc = .ok (.getfield ix, 3)) (kk : wk X a s nL (pc + 3) lv (.ref (adr X.G a 0 26) :: st) ce sl) : wk X a s nL pc lv (.ref (adr X.G a 0 25) :: st) ce sl := k_get hC inX1 (ci := 1) rfl (fx_in f0_25) rfl (slot := 0) (by decide) hw rfl hd kk
theorem gf_X1_1 {X : Kx} {cc : ByteArray} {nL : Nat} {own : String} {a : Ax} {s : Sx} {lv : List (Nat × Value)} {st : List Value} {ce sl pc ix : Nat} (hC : Cx X cc nL own)  (hw : Cond.fieldLink own ix "CampYears$Fires" "y" "[I" ∈ gw) (hd : decode cc pc = .ok (.getfield ix, 3)) (kk : wk X a s nL (pc + 3) lv (.ref (adr X.G a 0 27) :: st) ce sl) : wk X a s nL pc lv (.ref (adr X.G a 0 25) :: st) ce sl := k_get hC inX1 (ci := 1) rfl (fx_in f0_25) rfl (slot := 1) (by decide) hw rfl hd kk
theorem gf_X1_2 {X : Kx} {cc : ByteArray} {nL : Nat} {own : String} {a : Ax} {s : Sx} {lv : List (Nat × Value)} {st : List Value} {ce sl pc ix : Nat} (hC : Cx X cc nL own)  (hw : Cond.fieldLink own ix "CampYears$Fires" "need" "[I" ∈ gw) (hd : decode cc pc = .ok (.getfield ix, 3)) (kk : wk X a s nL (pc + 3) lv (.ref (adr X.G a 0 28) :: st) ce sl) : wk X a s nL pc lv (.ref (adr X.G a 0 25) :: st) ce sl := k_get hC inX1 (ci := 1) rfl (fx_in f0_25) rfl (slot := 2) (by decide) hw rfl hd kk
theorem gf_X1_3 {X : Kx} {cc : ByteArray} {nL : Nat} {own : String} {a : Ax} {s : Sx} {lv : List (Nat × Value)} {st : List Value} {ce sl pc ix : Nat} (hC : Cx X cc nL own)  (hw : Cond.fieldLink own ix "CampYears$Fires" "spread" "[I" ∈ gw) (hd : decode cc pc = .ok (.getfield ix, 3)) (kk : wk X a s nL (pc + 3) lv (.ref (adr X.G a 0 29) :: st) ce sl) : wk X a s nL pc lv (.ref (adr X.G a 0 25) :: st) ce sl := k_get hC inX1 (ci := 1) rfl (fx_in f0_25) rfl (slot := 3) (by decide) hw rfl hd kk
theorem gf_X1_4 {X : Kx} {cc : ByteArray} {nL : Nat} {own : String} {a : Ax} {s : Sx} {lv : List (Nat × Value)} {st : List Value} {ce sl pc ix : Nat} (hC : Cx X cc nL own)  (hw : Cond.fieldLink own ix "CampYears$Fires" "count" "I" ∈ gw) (hd : decode cc pc = .ok (.getfield ix, 3)) (kk : wk X a s nL (pc + 3) lv (.int (s.1 0 25 4) :: st) ce sl) : wk X a s nL pc lv (.ref (adr X.G a 0 25) :: st) ce sl := k_get hC inX1 (ci := 1) rfl (fx_in f0_25) rfl (slot := 4) (by decide) hw rfl hd kk
theorem pf_X1_4 {X : Kx} {cc : ByteArray} {nL : Nat} {own : String} {a : Ax} {s : Sx} {lv : List (Nat × Value)} {st : List Value} {ce sl pc ix : Nat} (hC : Cx X cc nL own)  {v : Int32} (hw : Cond.fieldLink own ix "CampYears$Fires" "count" "I" ∈ gw) (hd : decode cc pc = .ok (.putfield ix, 3)) (kk : ∀ s1, s1 = setI s 0 25 4 v → wk X a s1 nL (pc + 3) lv st ce sl) : wk X a s nL pc lv (.int v :: .ref (adr X.G a 0 25) :: st) ce sl := k_put hC inX1 (ty0 := tyX1) tyX1_ok nmX1 (ci := 1) rfl (fx_in f0_25) rfl rfl (slot := 4) (by decide) hw rfl (by decide +kernel) (Nat.le_of_ble_eq_true rfl) hd (kk _ rfl)
theorem gf_X1_5 {X : Kx} {cc : ByteArray} {nL : Nat} {own : String} {a : Ax} {s : Sx} {lv : List (Nat × Value)} {st : List Value} {ce sl pc ix : Nat} (hC : Cx X cc nL own)  (hw : Cond.fieldLink own ix "CampYears$Fires" "hours" "[I" ∈ gw) (hd : decode cc pc = .ok (.getfield ix, 3)) (kk : wk X a s nL (pc + 3) lv (.ref (adr X.G a 0 30) :: st) ce sl) : wk X a s nL pc lv (.ref (adr X.G a 0 25) :: st) ce sl := k_get hC inX1 (ci := 1) rfl (fx_in f0_25) rfl (slot := 5) (by decide) hw rfl hd kk
theorem gf_X1_6 {X : Kx} {cc : ByteArray} {nL : Nat} {own : String} {a : Ax} {s : Sx} {lv : List (Nat × Value)} {st : List Value} {ce sl pc ix : Nat} (hC : Cx X cc nL own)  (hw : Cond.fieldLink own ix "CampYears$Fires" "queue" "[I" ∈ gw) (hd : decode cc pc = .ok (.getfield ix, 3)) (kk : wk X a s nL (pc + 3) lv (.ref (adr X.G a 0 31) :: st) ce sl) : wk X a s nL pc lv (.ref (adr X.G a 0 25) :: st) ce sl := k_get hC inX1 (ci := 1) rfl (fx_in f0_25) rfl (slot := 6) (by decide) hw rfl hd kk
theorem gf_X1_7 {X : Kx} {cc : ByteArray} {nL : Nat} {own : String} {a : Ax} {s : Sx} {lv : List (Nat × Value)} {st : List Value} {ce sl pc ix : Nat} (hC : Cx X cc nL own)  (hw : Cond.fieldLink own ix "CampYears$Fires" "sent" "[J" ∈ gw) (hd : decode cc pc = .ok (.getfield ix, 3)) (kk : wk X a s nL (pc + 3) lv (.ref (adr X.G a 0 32) :: st) ce sl) : wk X a s nL pc lv (.ref (adr X.G a 0 25) :: st) ce sl := k_get hC inX1 (ci := 1) rfl (fx_in f0_25) rfl (slot := 7) (by decide) hw rfl hd kk
theorem gf_X1_8 {X : Kx} {cc : ByteArray} {nL : Nat} {own : String} {a : Ax} {s : Sx} {lv : List (Nat × Value)} {st : List Value} {ce sl pc ix : Nat} (hC : Cx X cc nL own)  (hw : Cond.fieldLink own ix "CampYears$Fires" "best" "[J" ∈ gw) (hd : decode cc pc = .ok (.getfield ix, 3)) (kk : wk X a s nL (pc + 3) lv (.ref (adr X.G a 0 33) :: st) ce sl) : wk X a s nL pc lv (.ref (adr X.G a 0 25) :: st) ce sl := k_get hC inX1 (ci := 1) rfl (fx_in f0_25) rfl (slot := 8) (by decide) hw rfl hd kk
theorem gf_X2_0 {X : Kx} {cc : ByteArray} {nL : Nat} {own : String} {a : Ax} {s : Sx} {lv : List (Nat × Value)} {st : List Value} {ce sl pc ix : Nat} (hC : Cx X cc nL own) {p : Nat} (hp : p < s.2.2 2) (hw : Cond.fieldLink own ix "CampYears$Order" "office" "I" ∈ gw) (hd : decode cc pc = .ok (.getfield ix, 3)) (kk : wk X a s nL (pc + 3) lv (.int (s.1 2 p 0) :: st) ce sl) : wk X a s nL pc lv (.ref (adr X.G a 2 p) :: st) ce sl := k_get hC inX2 (ci := 2) rfl (ox_in hp) rfl (slot := 0) (by decide) hw rfl hd kk
theorem pf_X2_0 {X : Kx} {cc : ByteArray} {nL : Nat} {own : String} {a : Ax} {s : Sx} {lv : List (Nat × Value)} {st : List Value} {ce sl pc ix : Nat} (hC : Cx X cc nL own) (hi : X.meth.name = "<init>") {p : Nat} (hp : p < s.2.2 2) {v : Int32} (hown : own = "CampYears$Order") (hw : Cond.fieldLink own ix "CampYears$Order" "office" "I" ∈ gw) (hd : decode cc pc = .ok (.putfield ix, 3)) (kk : ∀ s1, s1 = setI s 2 p 0 v → wk X a s1 nL (pc + 3) lv st ce sl) : wk X a s nL pc lv (.int v :: .ref (adr X.G a 2 p) :: st) ce sl := k_putF hC hi inX2 (ty0 := tyX2) tyX2_ok nmX2 (ci := 2) rfl (ox_in hp) rfl rfl (slot := 0) (by decide) hw rfl hown.symm (by decide +kernel) (Nat.le_of_ble_eq_true rfl) hd (kk _ rfl)
theorem gf_X2_1 {X : Kx} {cc : ByteArray} {nL : Nat} {own : String} {a : Ax} {s : Sx} {lv : List (Nat × Value)} {st : List Value} {ce sl pc ix : Nat} (hC : Cx X cc nL own) {p : Nat} (hp : p < s.2.2 2) (hw : Cond.fieldLink own ix "CampYears$Order" "fromHour" "I" ∈ gw) (hd : decode cc pc = .ok (.getfield ix, 3)) (kk : wk X a s nL (pc + 3) lv (.int (s.1 2 p 1) :: st) ce sl) : wk X a s nL pc lv (.ref (adr X.G a 2 p) :: st) ce sl := k_get hC inX2 (ci := 2) rfl (ox_in hp) rfl (slot := 1) (by decide) hw rfl hd kk
theorem pf_X2_1 {X : Kx} {cc : ByteArray} {nL : Nat} {own : String} {a : Ax} {s : Sx} {lv : List (Nat × Value)} {st : List Value} {ce sl pc ix : Nat} (hC : Cx X cc nL own) (hi : X.meth.name = "<init>") {p : Nat} (hp : p < s.2.2 2) {v : Int32} (hown : own = "CampYears$Order") (hw : Cond.fieldLink own ix "CampYears$Order" "fromHour" "I" ∈ gw) (hd : decode cc pc = .ok (.putfield ix, 3)) (kk : ∀ s1, s1 = setI s 2 p 1 v → wk X a s1 nL (pc + 3) lv st ce sl) : wk X a s nL pc lv (.int v :: .ref (adr X.G a 2 p) :: st) ce sl := k_putF hC hi inX2 (ty0 := tyX2) tyX2_ok nmX2 (ci := 2) rfl (ox_in hp) rfl rfl (slot := 1) (by decide) hw rfl hown.symm (by decide +kernel) (Nat.le_of_ble_eq_true rfl) hd (kk _ rfl)
theorem gf_X2_2 {X : Kx} {cc : ByteArray} {nL : Nat} {own : String} {a : Ax} {s : Sx} {lv : List (Nat × Value)} {st : List Value} {ce sl pc ix : Nat} (hC : Cx X cc nL own) {p : Nat} (hp : p < s.2.2 2) (hw : Cond.fieldLink own ix "CampYears$Order" "toHour" "I" ∈ gw) (hd : decode cc pc = .ok (.getfield ix, 3)) (kk : wk X a s nL (pc + 3) lv (.int (s.1 2 p 2) :: st) ce sl) : wk X a s nL pc lv (.ref (adr X.G a 2 p) :: st) ce sl := k_get hC inX2 (ci := 2) rfl (ox_in hp) rfl (slot := 2) (by decide) hw rfl hd kk
theorem pf_X2_2 {X : Kx} {cc : ByteArray} {nL : Nat} {own : String} {a : Ax} {s : Sx} {lv : List (Nat × Value)} {st : List Value} {ce sl pc ix : Nat} (hC : Cx X cc nL own) (hi : X.meth.name = "<init>") {p : Nat} (hp : p < s.2.2 2) {v : Int32} (hown : own = "CampYears$Order") (hw : Cond.fieldLink own ix "CampYears$Order" "toHour" "I" ∈ gw) (hd : decode cc pc = .ok (.putfield ix, 3)) (kk : ∀ s1, s1 = setI s 2 p 2 v → wk X a s1 nL (pc + 3) lv st ce sl) : wk X a s nL pc lv (.int v :: .ref (adr X.G a 2 p) :: st) ce sl := k_putF hC hi inX2 (ty0 := tyX2) tyX2_ok nmX2 (ci := 2) rfl (ox_in hp) rfl rfl (slot := 2) (by decide) hw rfl hown.symm (by decide +kernel) (Nat.le_of_ble_eq_true rfl) hd (kk _ rfl)
theorem gf_X2_3 {X : Kx} {cc : ByteArray} {nL : Nat} {own : String} {a : Ax} {s : Sx} {lv : List (Nat × Value)} {st : List Value} {ce sl pc ix : Nat} (hC : Cx X cc nL own) {p : Nat} (hp : p < s.2.2 2) (hw : Cond.fieldLink own ix "CampYears$Order" "fromDay" "I" ∈ gw) (hd : decode cc pc = .ok (.getfield ix, 3)) (kk : wk X a s nL (pc + 3) lv (.int (s.1 2 p 3) :: st) ce sl) : wk X a s nL pc lv (.ref (adr X.G a 2 p) :: st) ce sl := k_get hC inX2 (ci := 2) rfl (ox_in hp) rfl (slot := 3) (by decide) hw rfl hd kk
theorem pf_X2_3 {X : Kx} {cc : ByteArray} {nL : Nat} {own : String} {a : Ax} {s : Sx} {lv : List (Nat × Value)} {st : List Value} {ce sl pc ix : Nat} (hC : Cx X cc nL own) (hi : X.meth.name = "<init>") {p : Nat} (hp : p < s.2.2 2) {v : Int32} (hown : own = "CampYears$Order") (hw : Cond.fieldLink own ix "CampYears$Order" "fromDay" "I" ∈ gw) (hd : decode cc pc = .ok (.putfield ix, 3)) (kk : ∀ s1, s1 = setI s 2 p 3 v → wk X a s1 nL (pc + 3) lv st ce sl) : wk X a s nL pc lv (.int v :: .ref (adr X.G a 2 p) :: st) ce sl := k_putF hC hi inX2 (ty0 := tyX2) tyX2_ok nmX2 (ci := 2) rfl (ox_in hp) rfl rfl (slot := 3) (by decide) hw rfl hown.symm (by decide +kernel) (Nat.le_of_ble_eq_true rfl) hd (kk _ rfl)
theorem gf_X2_4 {X : Kx} {cc : ByteArray} {nL : Nat} {own : String} {a : Ax} {s : Sx} {lv : List (Nat × Value)} {st : List Value} {ce sl pc ix : Nat} (hC : Cx X cc nL own) {p : Nat} (hp : p < s.2.2 2) (hw : Cond.fieldLink own ix "CampYears$Order" "toDay" "I" ∈ gw) (hd : decode cc pc = .ok (.getfield ix, 3)) (kk : wk X a s nL (pc + 3) lv (.int (s.1 2 p 4) :: st) ce sl) : wk X a s nL pc lv (.ref (adr X.G a 2 p) :: st) ce sl := k_get hC inX2 (ci := 2) rfl (ox_in hp) rfl (slot := 4) (by decide) hw rfl hd kk
theorem pf_X2_4 {X : Kx} {cc : ByteArray} {nL : Nat} {own : String} {a : Ax} {s : Sx} {lv : List (Nat × Value)} {st : List Value} {ce sl pc ix : Nat} (hC : Cx X cc nL own) (hi : X.meth.name = "<init>") {p : Nat} (hp : p < s.2.2 2) {v : Int32} (hown : own = "CampYears$Order") (hw : Cond.fieldLink own ix "CampYears$Order" "toDay" "I" ∈ gw) (hd : decode cc pc = .ok (.putfield ix, 3)) (kk : ∀ s1, s1 = setI s 2 p 4 v → wk X a s1 nL (pc + 3) lv st ce sl) : wk X a s nL pc lv (.int v :: .ref (adr X.G a 2 p) :: st) ce sl := k_putF hC hi inX2 (ty0 := tyX2) tyX2_ok nmX2 (ci := 2) rfl (ox_in hp) rfl rfl (slot := 4) (by decide) hw rfl hown.symm (by decide +kernel) (Nat.le_of_ble_eq_true rfl) hd (kk _ rfl)
theorem gf_X2_5 {X : Kx} {cc : ByteArray} {nL : Nat} {own : String} {a : Ax} {s : Sx} {lv : List (Nat × Value)} {st : List Value} {ce sl pc ix : Nat} (hC : Cx X cc nL own) {p : Nat} (hp : p < s.2.2 2) (hw : Cond.fieldLink own ix "CampYears$Order" "leftOut" "I" ∈ gw) (hd : decode cc pc = .ok (.getfield ix, 3)) (kk : wk X a s nL (pc + 3) lv (.int (s.1 2 p 5) :: st) ce sl) : wk X a s nL pc lv (.ref (adr X.G a 2 p) :: st) ce sl := k_get hC inX2 (ci := 2) rfl (ox_in hp) rfl (slot := 5) (by decide) hw rfl hd kk
theorem pf_X2_5 {X : Kx} {cc : ByteArray} {nL : Nat} {own : String} {a : Ax} {s : Sx} {lv : List (Nat × Value)} {st : List Value} {ce sl pc ix : Nat} (hC : Cx X cc nL own) (hi : X.meth.name = "<init>") {p : Nat} (hp : p < s.2.2 2) {v : Int32} (hown : own = "CampYears$Order") (hw : Cond.fieldLink own ix "CampYears$Order" "leftOut" "I" ∈ gw) (hd : decode cc pc = .ok (.putfield ix, 3)) (kk : ∀ s1, s1 = setI s 2 p 5 v → wk X a s1 nL (pc + 3) lv st ce sl) : wk X a s nL pc lv (.int v :: .ref (adr X.G a 2 p) :: st) ce sl := k_putF hC hi inX2 (ty0 := tyX2) tyX2_ok nmX2 (ci := 2) rfl (ox_in hp) rfl rfl (slot := 5) (by decide) hw rfl hown.symm (by decide +kernel) (Nat.le_of_ble_eq_true rfl) hd (kk _ rfl)
theorem gf_X2_6 {X : Kx} {cc : ByteArray} {nL : Nat} {own : String} {a : Ax} {s : Sx} {lv : List (Nat × Value)} {st : List Value} {ce sl pc ix : Nat} (hC : Cx X cc nL own) {p : Nat} (hp : p < s.2.2 2) (hw : Cond.fieldLink own ix "CampYears$Order" "given" "I" ∈ gw) (hd : decode cc pc = .ok (.getfield ix, 3)) (kk : wk X a s nL (pc + 3) lv (.int (s.1 2 p 6) :: st) ce sl) : wk X a s nL pc lv (.ref (adr X.G a 2 p) :: st) ce sl := k_get hC inX2 (ci := 2) rfl (ox_in hp) rfl (slot := 6) (by decide) hw rfl hd kk
theorem pf_X2_6 {X : Kx} {cc : ByteArray} {nL : Nat} {own : String} {a : Ax} {s : Sx} {lv : List (Nat × Value)} {st : List Value} {ce sl pc ix : Nat} (hC : Cx X cc nL own) (hi : X.meth.name = "<init>") {p : Nat} (hp : p < s.2.2 2) {v : Int32} (hown : own = "CampYears$Order") (hw : Cond.fieldLink own ix "CampYears$Order" "given" "I" ∈ gw) (hd : decode cc pc = .ok (.putfield ix, 3)) (kk : ∀ s1, s1 = setI s 2 p 6 v → wk X a s1 nL (pc + 3) lv st ce sl) : wk X a s nL pc lv (.int v :: .ref (adr X.G a 2 p) :: st) ce sl := k_putF hC hi inX2 (ty0 := tyX2) tyX2_ok nmX2 (ci := 2) rfl (ox_in hp) rfl rfl (slot := 6) (by decide) hw rfl hown.symm (by decide +kernel) (Nat.le_of_ble_eq_true rfl) hd (kk _ rfl)
theorem gf_X3_0 {X : Kx} {cc : ByteArray} {nL : Nat} {own : String} {a : Ax} {s : Sx} {lv : List (Nat × Value)} {st : List Value} {ce sl pc ix : Nat} (hC : Cx X cc nL own) {p : Nat} (hp : p < s.2.2 6) {k : Nat} (hk : k < 4) (he : s.1 4 p 0 = nI (k + 1)) (hw : Cond.fieldLink own ix "CampYears$OrderReader" "cells" "LCampYears$Sheet;" ∈ gw) (hd : decode cc pc = .ok (.getfield ix, 3)) (kk : wk X a s nL (pc + 3) lv (.ref (adr X.G a 0 (42 + k)) :: st) ce sl) : wk X a s nL pc lv (.ref (adr X.G a 4 p) :: st) ce sl := k_get hC inX3 (ci := 3) rfl (rx_in hp) rfl (slot := 0) (by decide) hw (by show some (va_rf (rd_ X.G (s.1 4 p 0).toNatClampNeg)) = _; rw [he, nI_clamp (by omega)]; rfl) hd kk
theorem pf_X3_0 {X : Kx} {cc : ByteArray} {nL : Nat} {own : String} {a : Ax} {s : Sx} {lv : List (Nat × Value)} {st : List Value} {ce sl pc ix : Nat} (hC : Cx X cc nL own) (hi : X.meth.name = "<init>") {p : Nat} (hp : p < s.2.2 6) {k : Nat} (hk : k < 4) (hown : own = "CampYears$OrderReader") (hw : Cond.fieldLink own ix "CampYears$OrderReader" "cells" "LCampYears$Sheet;" ∈ gw) (hd : decode cc pc = .ok (.putfield ix, 3)) (kk : ∀ s1, s1 = setI s 4 p 0 (nI (k + 1)) → wk X a s1 nL (pc + 3) lv st ce sl) : wk X a s nL pc lv (.ref (adr X.G a 0 (42 + k)) :: .ref (adr X.G a 4 p) :: st) ce sl := fun H locs ls hF hS hl => by
  obtain ⟨q0, h1, h2⟩ := fw_get (G := X.G) (a := a) (rx_in (n := s.2.2) hp)
  subst hown
  refine va_putF hC.1 hC.2.1 hC.2.2.2.2.1 inX3 tyX3 tyX3_ok nmX3 hC.2.2.2.1 hC.2.2.2.2.2.1 hF.1 hF.2 hS q0 (ci := 3) h2 rfl 0 (by decide) (hC.2.2.2.2.1 _ hw) (fun _ h => h) rfl hi rfl (ty := .object "CampYears$Sheet") (by decide +kernel) rfl rfl (Nat.le_of_ble_eq_true rfl) hd (fun H1 locs1 hP hD hS1 => kk _ rfl H1 locs1 ls (fw_set hF.2 h1 rfl ?_ ?_ hP hD) hS1 hl)
  · rw [setI_1]
    show Sum.inr (3, _) = _
    have e : (upd (s.1 4 p) 0 (nI (k + 1)) 0).toNatClampNeg = k + 1 := by rw [pk_us]; exact nI_clamp (by omega)
    rw [e]; rfl
  · intro k1 j1 h; rw [setI_n s h]; rfl
theorem gf_X3_1 {X : Kx} {cc : ByteArray} {nL : Nat} {own : String} {a : Ax} {s : Sx} {lv : List (Nat × Value)} {st : List Value} {ce sl pc ix : Nat} (hC : Cx X cc nL own) {p : Nat} (hp : p < s.2.2 6) (hw : Cond.fieldLink own ix "CampYears$OrderReader" "start" "I" ∈ gw) (hd : decode cc pc = .ok (.getfield ix, 3)) (kk : wk X a s nL (pc + 3) lv (.int (s.1 4 p 1) :: st) ce sl) : wk X a s nL pc lv (.ref (adr X.G a 4 p) :: st) ce sl := k_get hC inX3 (ci := 3) rfl (rx_in hp) rfl (slot := 1) (by decide) hw rfl hd kk
theorem pf_X3_1 {X : Kx} {cc : ByteArray} {nL : Nat} {own : String} {a : Ax} {s : Sx} {lv : List (Nat × Value)} {st : List Value} {ce sl pc ix : Nat} (hC : Cx X cc nL own) (hi : X.meth.name = "<init>") {p : Nat} (hp : p < s.2.2 6) {v : Int32} (hown : own = "CampYears$OrderReader") (hw : Cond.fieldLink own ix "CampYears$OrderReader" "start" "I" ∈ gw) (hd : decode cc pc = .ok (.putfield ix, 3)) (kk : ∀ s1, s1 = setI s 4 p 1 v → wk X a s1 nL (pc + 3) lv st ce sl) : wk X a s nL pc lv (.int v :: .ref (adr X.G a 4 p) :: st) ce sl := k_putF hC hi inX3 (ty0 := tyX3) tyX3_ok nmX3 (ci := 3) rfl (rx_in hp) rfl rfl (slot := 1) (by decide) hw rfl hown.symm (by decide +kernel) (Nat.le_of_ble_eq_true rfl) hd (kk _ rfl)
theorem gf_X3_2 {X : Kx} {cc : ByteArray} {nL : Nat} {own : String} {a : Ax} {s : Sx} {lv : List (Nat × Value)} {st : List Value} {ce sl pc ix : Nat} (hC : Cx X cc nL own) {p : Nat} (hp : p < s.2.2 6) (hw : Cond.fieldLink own ix "CampYears$OrderReader" "length" "I" ∈ gw) (hd : decode cc pc = .ok (.getfield ix, 3)) (kk : wk X a s nL (pc + 3) lv (.int (s.1 4 p 2) :: st) ce sl) : wk X a s nL pc lv (.ref (adr X.G a 4 p) :: st) ce sl := k_get hC inX3 (ci := 3) rfl (rx_in hp) rfl (slot := 2) (by decide) hw rfl hd kk
theorem pf_X3_2 {X : Kx} {cc : ByteArray} {nL : Nat} {own : String} {a : Ax} {s : Sx} {lv : List (Nat × Value)} {st : List Value} {ce sl pc ix : Nat} (hC : Cx X cc nL own) (hi : X.meth.name = "<init>") {p : Nat} (hp : p < s.2.2 6) {v : Int32} (hown : own = "CampYears$OrderReader") (hw : Cond.fieldLink own ix "CampYears$OrderReader" "length" "I" ∈ gw) (hd : decode cc pc = .ok (.putfield ix, 3)) (kk : ∀ s1, s1 = setI s 4 p 2 v → wk X a s1 nL (pc + 3) lv st ce sl) : wk X a s nL pc lv (.int v :: .ref (adr X.G a 4 p) :: st) ce sl := k_putF hC hi inX3 (ty0 := tyX3) tyX3_ok nmX3 (ci := 3) rfl (rx_in hp) rfl rfl (slot := 2) (by decide) hw rfl hown.symm (by decide +kernel) (Nat.le_of_ble_eq_true rfl) hd (kk _ rfl)
theorem gf_X3_3 {X : Kx} {cc : ByteArray} {nL : Nat} {own : String} {a : Ax} {s : Sx} {lv : List (Nat × Value)} {st : List Value} {ce sl pc ix : Nat} (hC : Cx X cc nL own) {p : Nat} (hp : p < s.2.2 6) (hw : Cond.fieldLink own ix "CampYears$OrderReader" "campCount" "I" ∈ gw) (hd : decode cc pc = .ok (.getfield ix, 3)) (kk : wk X a s nL (pc + 3) lv (.int (s.1 4 p 3) :: st) ce sl) : wk X a s nL pc lv (.ref (adr X.G a 4 p) :: st) ce sl := k_get hC inX3 (ci := 3) rfl (rx_in hp) rfl (slot := 3) (by decide) hw rfl hd kk
theorem pf_X3_3 {X : Kx} {cc : ByteArray} {nL : Nat} {own : String} {a : Ax} {s : Sx} {lv : List (Nat × Value)} {st : List Value} {ce sl pc ix : Nat} (hC : Cx X cc nL own) (hi : X.meth.name = "<init>") {p : Nat} (hp : p < s.2.2 6) {v : Int32} (hown : own = "CampYears$OrderReader") (hw : Cond.fieldLink own ix "CampYears$OrderReader" "campCount" "I" ∈ gw) (hd : decode cc pc = .ok (.putfield ix, 3)) (kk : ∀ s1, s1 = setI s 4 p 3 v → wk X a s1 nL (pc + 3) lv st ce sl) : wk X a s nL pc lv (.int v :: .ref (adr X.G a 4 p) :: st) ce sl := k_putF hC hi inX3 (ty0 := tyX3) tyX3_ok nmX3 (ci := 3) rfl (rx_in hp) rfl rfl (slot := 3) (by decide) hw rfl hown.symm (by decide +kernel) (Nat.le_of_ble_eq_true rfl) hd (kk _ rfl)
theorem gf_X3_4 {X : Kx} {cc : ByteArray} {nL : Nat} {own : String} {a : Ax} {s : Sx} {lv : List (Nat × Value)} {st : List Value} {ce sl pc ix : Nat} (hC : Cx X cc nL own) {p : Nat} (hp : p < s.2.2 6) (hw : Cond.fieldLink own ix "CampYears$OrderReader" "at" "I" ∈ gw) (hd : decode cc pc = .ok (.getfield ix, 3)) (kk : wk X a s nL (pc + 3) lv (.int (s.1 4 p 4) :: st) ce sl) : wk X a s nL pc lv (.ref (adr X.G a 4 p) :: st) ce sl := k_get hC inX3 (ci := 3) rfl (rx_in hp) rfl (slot := 4) (by decide) hw rfl hd kk
theorem pf_X3_4 {X : Kx} {cc : ByteArray} {nL : Nat} {own : String} {a : Ax} {s : Sx} {lv : List (Nat × Value)} {st : List Value} {ce sl pc ix : Nat} (hC : Cx X cc nL own) {p : Nat} (hp : p < s.2.2 6) {v : Int32} (hw : Cond.fieldLink own ix "CampYears$OrderReader" "at" "I" ∈ gw) (hd : decode cc pc = .ok (.putfield ix, 3)) (kk : ∀ s1, s1 = setI s 4 p 4 v → wk X a s1 nL (pc + 3) lv st ce sl) : wk X a s nL pc lv (.int v :: .ref (adr X.G a 4 p) :: st) ce sl := k_put hC inX3 (ty0 := tyX3) tyX3_ok nmX3 (ci := 3) rfl (rx_in hp) rfl rfl (slot := 4) (by decide) hw rfl (by decide +kernel) (Nat.le_of_ble_eq_true rfl) hd (kk _ rfl)
theorem gf_X3_5 {X : Kx} {cc : ByteArray} {nL : Nat} {own : String} {a : Ax} {s : Sx} {lv : List (Nat × Value)} {st : List Value} {ce sl pc ix : Nat} (hC : Cx X cc nL own) {p : Nat} (hp : p < s.2.2 6) (hw : Cond.fieldLink own ix "CampYears$OrderReader" "firstFault" "I" ∈ gw) (hd : decode cc pc = .ok (.getfield ix, 3)) (kk : wk X a s nL (pc + 3) lv (.int (s.1 4 p 5) :: st) ce sl) : wk X a s nL pc lv (.ref (adr X.G a 4 p) :: st) ce sl := k_get hC inX3 (ci := 3) rfl (rx_in hp) rfl (slot := 5) (by decide) hw rfl hd kk
theorem pf_X3_5 {X : Kx} {cc : ByteArray} {nL : Nat} {own : String} {a : Ax} {s : Sx} {lv : List (Nat × Value)} {st : List Value} {ce sl pc ix : Nat} (hC : Cx X cc nL own) {p : Nat} (hp : p < s.2.2 6) {v : Int32} (hw : Cond.fieldLink own ix "CampYears$OrderReader" "firstFault" "I" ∈ gw) (hd : decode cc pc = .ok (.putfield ix, 3)) (kk : ∀ s1, s1 = setI s 4 p 5 v → wk X a s1 nL (pc + 3) lv st ce sl) : wk X a s nL pc lv (.int v :: .ref (adr X.G a 4 p) :: st) ce sl := k_put hC inX3 (ty0 := tyX3) tyX3_ok nmX3 (ci := 3) rfl (rx_in hp) rfl rfl (slot := 5) (by decide) hw rfl (by decide +kernel) (Nat.le_of_ble_eq_true rfl) hd (kk _ rfl)
theorem gf_X3_6 {X : Kx} {cc : ByteArray} {nL : Nat} {own : String} {a : Ax} {s : Sx} {lv : List (Nat × Value)} {st : List Value} {ce sl pc ix : Nat} (hC : Cx X cc nL own) {p : Nat} (hp : p < s.2.2 6) (hw : Cond.fieldLink own ix "CampYears$OrderReader" "office" "I" ∈ gw) (hd : decode cc pc = .ok (.getfield ix, 3)) (kk : wk X a s nL (pc + 3) lv (.int (s.1 4 p 6) :: st) ce sl) : wk X a s nL pc lv (.ref (adr X.G a 4 p) :: st) ce sl := k_get hC inX3 (ci := 3) rfl (rx_in hp) rfl (slot := 6) (by decide) hw rfl hd kk
theorem pf_X3_6 {X : Kx} {cc : ByteArray} {nL : Nat} {own : String} {a : Ax} {s : Sx} {lv : List (Nat × Value)} {st : List Value} {ce sl pc ix : Nat} (hC : Cx X cc nL own) {p : Nat} (hp : p < s.2.2 6) {v : Int32} (hw : Cond.fieldLink own ix "CampYears$OrderReader" "office" "I" ∈ gw) (hd : decode cc pc = .ok (.putfield ix, 3)) (kk : ∀ s1, s1 = setI s 4 p 6 v → wk X a s1 nL (pc + 3) lv st ce sl) : wk X a s nL pc lv (.int v :: .ref (adr X.G a 4 p) :: st) ce sl := k_put hC inX3 (ty0 := tyX3) tyX3_ok nmX3 (ci := 3) rfl (rx_in hp) rfl rfl (slot := 6) (by decide) hw rfl (by decide +kernel) (Nat.le_of_ble_eq_true rfl) hd (kk _ rfl)
theorem gf_X3_7 {X : Kx} {cc : ByteArray} {nL : Nat} {own : String} {a : Ax} {s : Sx} {lv : List (Nat × Value)} {st : List Value} {ce sl pc ix : Nat} (hC : Cx X cc nL own) {p : Nat} (hp : p < s.2.2 6) (hw : Cond.fieldLink own ix "CampYears$OrderReader" "fromHour" "I" ∈ gw) (hd : decode cc pc = .ok (.getfield ix, 3)) (kk : wk X a s nL (pc + 3) lv (.int (s.1 4 p 7) :: st) ce sl) : wk X a s nL pc lv (.ref (adr X.G a 4 p) :: st) ce sl := k_get hC inX3 (ci := 3) rfl (rx_in hp) rfl (slot := 7) (by decide) hw rfl hd kk
theorem pf_X3_7 {X : Kx} {cc : ByteArray} {nL : Nat} {own : String} {a : Ax} {s : Sx} {lv : List (Nat × Value)} {st : List Value} {ce sl pc ix : Nat} (hC : Cx X cc nL own) {p : Nat} (hp : p < s.2.2 6) {v : Int32} (hw : Cond.fieldLink own ix "CampYears$OrderReader" "fromHour" "I" ∈ gw) (hd : decode cc pc = .ok (.putfield ix, 3)) (kk : ∀ s1, s1 = setI s 4 p 7 v → wk X a s1 nL (pc + 3) lv st ce sl) : wk X a s nL pc lv (.int v :: .ref (adr X.G a 4 p) :: st) ce sl := k_put hC inX3 (ty0 := tyX3) tyX3_ok nmX3 (ci := 3) rfl (rx_in hp) rfl rfl (slot := 7) (by decide) hw rfl (by decide +kernel) (Nat.le_of_ble_eq_true rfl) hd (kk _ rfl)
theorem gf_X3_8 {X : Kx} {cc : ByteArray} {nL : Nat} {own : String} {a : Ax} {s : Sx} {lv : List (Nat × Value)} {st : List Value} {ce sl pc ix : Nat} (hC : Cx X cc nL own) {p : Nat} (hp : p < s.2.2 6) (hw : Cond.fieldLink own ix "CampYears$OrderReader" "toHour" "I" ∈ gw) (hd : decode cc pc = .ok (.getfield ix, 3)) (kk : wk X a s nL (pc + 3) lv (.int (s.1 4 p 8) :: st) ce sl) : wk X a s nL pc lv (.ref (adr X.G a 4 p) :: st) ce sl := k_get hC inX3 (ci := 3) rfl (rx_in hp) rfl (slot := 8) (by decide) hw rfl hd kk
theorem pf_X3_8 {X : Kx} {cc : ByteArray} {nL : Nat} {own : String} {a : Ax} {s : Sx} {lv : List (Nat × Value)} {st : List Value} {ce sl pc ix : Nat} (hC : Cx X cc nL own) {p : Nat} (hp : p < s.2.2 6) {v : Int32} (hw : Cond.fieldLink own ix "CampYears$OrderReader" "toHour" "I" ∈ gw) (hd : decode cc pc = .ok (.putfield ix, 3)) (kk : ∀ s1, s1 = setI s 4 p 8 v → wk X a s1 nL (pc + 3) lv st ce sl) : wk X a s nL pc lv (.int v :: .ref (adr X.G a 4 p) :: st) ce sl := k_put hC inX3 (ty0 := tyX3) tyX3_ok nmX3 (ci := 3) rfl (rx_in hp) rfl rfl (slot := 8) (by decide) hw rfl (by decide +kernel) (Nat.le_of_ble_eq_true rfl) hd (kk _ rfl)
theorem gf_X3_9 {X : Kx} {cc : ByteArray} {nL : Nat} {own : String} {a : Ax} {s : Sx} {lv : List (Nat × Value)} {st : List Value} {ce sl pc ix : Nat} (hC : Cx X cc nL own) {p : Nat} (hp : p < s.2.2 6) (hw : Cond.fieldLink own ix "CampYears$OrderReader" "fromDay" "I" ∈ gw) (hd : decode cc pc = .ok (.getfield ix, 3)) (kk : wk X a s nL (pc + 3) lv (.int (s.1 4 p 9) :: st) ce sl) : wk X a s nL pc lv (.ref (adr X.G a 4 p) :: st) ce sl := k_get hC inX3 (ci := 3) rfl (rx_in hp) rfl (slot := 9) (by decide) hw rfl hd kk
theorem pf_X3_9 {X : Kx} {cc : ByteArray} {nL : Nat} {own : String} {a : Ax} {s : Sx} {lv : List (Nat × Value)} {st : List Value} {ce sl pc ix : Nat} (hC : Cx X cc nL own) {p : Nat} (hp : p < s.2.2 6) {v : Int32} (hw : Cond.fieldLink own ix "CampYears$OrderReader" "fromDay" "I" ∈ gw) (hd : decode cc pc = .ok (.putfield ix, 3)) (kk : ∀ s1, s1 = setI s 4 p 9 v → wk X a s1 nL (pc + 3) lv st ce sl) : wk X a s nL pc lv (.int v :: .ref (adr X.G a 4 p) :: st) ce sl := k_put hC inX3 (ty0 := tyX3) tyX3_ok nmX3 (ci := 3) rfl (rx_in hp) rfl rfl (slot := 9) (by decide) hw rfl (by decide +kernel) (Nat.le_of_ble_eq_true rfl) hd (kk _ rfl)
theorem gf_X3_10 {X : Kx} {cc : ByteArray} {nL : Nat} {own : String} {a : Ax} {s : Sx} {lv : List (Nat × Value)} {st : List Value} {ce sl pc ix : Nat} (hC : Cx X cc nL own) {p : Nat} (hp : p < s.2.2 6) (hw : Cond.fieldLink own ix "CampYears$OrderReader" "toDay" "I" ∈ gw) (hd : decode cc pc = .ok (.getfield ix, 3)) (kk : wk X a s nL (pc + 3) lv (.int (s.1 4 p 10) :: st) ce sl) : wk X a s nL pc lv (.ref (adr X.G a 4 p) :: st) ce sl := k_get hC inX3 (ci := 3) rfl (rx_in hp) rfl (slot := 10) (by decide) hw rfl hd kk
theorem pf_X3_10 {X : Kx} {cc : ByteArray} {nL : Nat} {own : String} {a : Ax} {s : Sx} {lv : List (Nat × Value)} {st : List Value} {ce sl pc ix : Nat} (hC : Cx X cc nL own) {p : Nat} (hp : p < s.2.2 6) {v : Int32} (hw : Cond.fieldLink own ix "CampYears$OrderReader" "toDay" "I" ∈ gw) (hd : decode cc pc = .ok (.putfield ix, 3)) (kk : ∀ s1, s1 = setI s 4 p 10 v → wk X a s1 nL (pc + 3) lv st ce sl) : wk X a s nL pc lv (.int v :: .ref (adr X.G a 4 p) :: st) ce sl := k_put hC inX3 (ty0 := tyX3) tyX3_ok nmX3 (ci := 3) rfl (rx_in hp) rfl rfl (slot := 10) (by decide) hw rfl (by decide +kernel) (Nat.le_of_ble_eq_true rfl) hd (kk _ rfl)
theorem gf_X3_11 {X : Kx} {cc : ByteArray} {nL : Nat} {own : String} {a : Ax} {s : Sx} {lv : List (Nat × Value)} {st : List Value} {ce sl pc ix : Nat} (hC : Cx X cc nL own) {p : Nat} (hp : p < s.2.2 6) (hw : Cond.fieldLink own ix "CampYears$OrderReader" "leftOut" "I" ∈ gw) (hd : decode cc pc = .ok (.getfield ix, 3)) (kk : wk X a s nL (pc + 3) lv (.int (s.1 4 p 11) :: st) ce sl) : wk X a s nL pc lv (.ref (adr X.G a 4 p) :: st) ce sl := k_get hC inX3 (ci := 3) rfl (rx_in hp) rfl (slot := 11) (by decide) hw rfl hd kk
theorem pf_X3_11 {X : Kx} {cc : ByteArray} {nL : Nat} {own : String} {a : Ax} {s : Sx} {lv : List (Nat × Value)} {st : List Value} {ce sl pc ix : Nat} (hC : Cx X cc nL own) {p : Nat} (hp : p < s.2.2 6) {v : Int32} (hw : Cond.fieldLink own ix "CampYears$OrderReader" "leftOut" "I" ∈ gw) (hd : decode cc pc = .ok (.putfield ix, 3)) (kk : ∀ s1, s1 = setI s 4 p 11 v → wk X a s1 nL (pc + 3) lv st ce sl) : wk X a s nL pc lv (.int v :: .ref (adr X.G a 4 p) :: st) ce sl := k_put hC inX3 (ty0 := tyX3) tyX3_ok nmX3 (ci := 3) rfl (rx_in hp) rfl rfl (slot := 11) (by decide) hw rfl (by decide +kernel) (Nat.le_of_ble_eq_true rfl) hd (kk _ rfl)
theorem gf_X4_0 {X : Kx} {cc : ByteArray} {nL : Nat} {own : String} {a : Ax} {s : Sx} {lv : List (Nat × Value)} {st : List Value} {ce sl pc ix : Nat} (hC : Cx X cc nL own)  (hw : Cond.fieldLink own ix "CampYears$Payroll" "rates" "[I" ∈ gw) (hd : decode cc pc = .ok (.getfield ix, 3)) (kk : wk X a s nL (pc + 3) lv (.ref (adr X.G a 0 10) :: st) ce sl) : wk X a s nL pc lv (.ref (adr X.G a 0 9) :: st) ce sl := k_get hC inX4 (ci := 4) rfl (fx_in f0_9) rfl (slot := 0) (by decide) hw rfl hd kk
theorem gf_X4_1 {X : Kx} {cc : ByteArray} {nL : Nat} {own : String} {a : Ax} {s : Sx} {lv : List (Nat × Value)} {st : List Value} {ce sl pc ix : Nat} (hC : Cx X cc nL own)  (hw : Cond.fieldLink own ix "CampYears$Payroll" "homeShare" "I" ∈ gw) (hd : decode cc pc = .ok (.getfield ix, 3)) (kk : wk X a s nL (pc + 3) lv (.int (s.1 0 9 1) :: st) ce sl) : wk X a s nL pc lv (.ref (adr X.G a 0 9) :: st) ce sl := k_get hC inX4 (ci := 4) rfl (fx_in f0_9) rfl (slot := 1) (by decide) hw rfl hd kk
theorem pf_X4_1 {X : Kx} {cc : ByteArray} {nL : Nat} {own : String} {a : Ax} {s : Sx} {lv : List (Nat × Value)} {st : List Value} {ce sl pc ix : Nat} (hC : Cx X cc nL own)  {v : Int32} (hw : Cond.fieldLink own ix "CampYears$Payroll" "homeShare" "I" ∈ gw) (hd : decode cc pc = .ok (.putfield ix, 3)) (kk : ∀ s1, s1 = setI s 0 9 1 v → wk X a s1 nL (pc + 3) lv st ce sl) : wk X a s nL pc lv (.int v :: .ref (adr X.G a 0 9) :: st) ce sl := k_put hC inX4 (ty0 := tyX4) tyX4_ok nmX4 (ci := 4) rfl (fx_in f0_9) rfl rfl (slot := 1) (by decide) hw rfl (by decide +kernel) (Nat.le_of_ble_eq_true rfl) hd (kk _ rfl)
theorem gf_X4_2 {X : Kx} {cc : ByteArray} {nL : Nat} {own : String} {a : Ax} {s : Sx} {lv : List (Nat × Value)} {st : List Value} {ce sl pc ix : Nat} (hC : Cx X cc nL own)  (hw : Cond.fieldLink own ix "CampYears$Payroll" "homeBy" "I" ∈ gw) (hd : decode cc pc = .ok (.getfield ix, 3)) (kk : wk X a s nL (pc + 3) lv (.int (s.1 0 9 2) :: st) ce sl) : wk X a s nL pc lv (.ref (adr X.G a 0 9) :: st) ce sl := k_get hC inX4 (ci := 4) rfl (fx_in f0_9) rfl (slot := 2) (by decide) hw rfl hd kk
theorem pf_X4_2 {X : Kx} {cc : ByteArray} {nL : Nat} {own : String} {a : Ax} {s : Sx} {lv : List (Nat × Value)} {st : List Value} {ce sl pc ix : Nat} (hC : Cx X cc nL own)  {v : Int32} (hw : Cond.fieldLink own ix "CampYears$Payroll" "homeBy" "I" ∈ gw) (hd : decode cc pc = .ok (.putfield ix, 3)) (kk : ∀ s1, s1 = setI s 0 9 2 v → wk X a s1 nL (pc + 3) lv st ce sl) : wk X a s nL pc lv (.int v :: .ref (adr X.G a 0 9) :: st) ce sl := k_put hC inX4 (ty0 := tyX4) tyX4_ok nmX4 (ci := 4) rfl (fx_in f0_9) rfl rfl (slot := 2) (by decide) hw rfl (by decide +kernel) (Nat.le_of_ble_eq_true rfl) hd (kk _ rfl)
theorem gf_X4_3 {X : Kx} {cc : ByteArray} {nL : Nat} {own : String} {a : Ax} {s : Sx} {lv : List (Nat × Value)} {st : List Value} {ce sl pc ix : Nat} (hC : Cx X cc nL own)  (hw : Cond.fieldLink own ix "CampYears$Payroll" "fineMan" "[I" ∈ gw) (hd : decode cc pc = .ok (.getfield ix, 3)) (kk : wk X a s nL (pc + 3) lv (.ref (adr X.G a 0 11) :: st) ce sl) : wk X a s nL pc lv (.ref (adr X.G a 0 9) :: st) ce sl := k_get hC inX4 (ci := 4) rfl (fx_in f0_9) rfl (slot := 3) (by decide) hw rfl hd kk
theorem gf_X4_4 {X : Kx} {cc : ByteArray} {nL : Nat} {own : String} {a : Ax} {s : Sx} {lv : List (Nat × Value)} {st : List Value} {ce sl pc ix : Nat} (hC : Cx X cc nL own)  (hw : Cond.fieldLink own ix "CampYears$Payroll" "fineDay" "[I" ∈ gw) (hd : decode cc pc = .ok (.getfield ix, 3)) (kk : wk X a s nL (pc + 3) lv (.ref (adr X.G a 0 12) :: st) ce sl) : wk X a s nL pc lv (.ref (adr X.G a 0 9) :: st) ce sl := k_get hC inX4 (ci := 4) rfl (fx_in f0_9) rfl (slot := 4) (by decide) hw rfl hd kk
theorem gf_X4_5 {X : Kx} {cc : ByteArray} {nL : Nat} {own : String} {a : Ax} {s : Sx} {lv : List (Nat × Value)} {st : List Value} {ce sl pc ix : Nat} (hC : Cx X cc nL own)  (hw : Cond.fieldLink own ix "CampYears$Payroll" "fineCents" "[I" ∈ gw) (hd : decode cc pc = .ok (.getfield ix, 3)) (kk : wk X a s nL (pc + 3) lv (.ref (adr X.G a 0 13) :: st) ce sl) : wk X a s nL pc lv (.ref (adr X.G a 0 9) :: st) ce sl := k_get hC inX4 (ci := 4) rfl (fx_in f0_9) rfl (slot := 5) (by decide) hw rfl hd kk
theorem gf_X4_6 {X : Kx} {cc : ByteArray} {nL : Nat} {own : String} {a : Ax} {s : Sx} {lv : List (Nat × Value)} {st : List Value} {ce sl pc ix : Nat} (hC : Cx X cc nL own)  (hw : Cond.fieldLink own ix "CampYears$Payroll" "fineCount" "I" ∈ gw) (hd : decode cc pc = .ok (.getfield ix, 3)) (kk : wk X a s nL (pc + 3) lv (.int (s.1 0 9 6) :: st) ce sl) : wk X a s nL pc lv (.ref (adr X.G a 0 9) :: st) ce sl := k_get hC inX4 (ci := 4) rfl (fx_in f0_9) rfl (slot := 6) (by decide) hw rfl hd kk
theorem pf_X4_6 {X : Kx} {cc : ByteArray} {nL : Nat} {own : String} {a : Ax} {s : Sx} {lv : List (Nat × Value)} {st : List Value} {ce sl pc ix : Nat} (hC : Cx X cc nL own)  {v : Int32} (hw : Cond.fieldLink own ix "CampYears$Payroll" "fineCount" "I" ∈ gw) (hd : decode cc pc = .ok (.putfield ix, 3)) (kk : ∀ s1, s1 = setI s 0 9 6 v → wk X a s1 nL (pc + 3) lv st ce sl) : wk X a s nL pc lv (.int v :: .ref (adr X.G a 0 9) :: st) ce sl := k_put hC inX4 (ty0 := tyX4) tyX4_ok nmX4 (ci := 4) rfl (fx_in f0_9) rfl rfl (slot := 6) (by decide) hw rfl (by decide +kernel) (Nat.le_of_ble_eq_true rfl) hd (kk _ rfl)
theorem gf_X5_0 {X : Kx} {cc : ByteArray} {nL : Nat} {own : String} {a : Ax} {s : Sx} {lv : List (Nat × Value)} {st : List Value} {ce sl pc ix : Nat} (hC : Cx X cc nL own)  (hw : Cond.fieldLink own ix "CampYears$Places" "x" "[I" ∈ gw) (hd : decode cc pc = .ok (.getfield ix, 3)) (kk : wk X a s nL (pc + 3) lv (.ref (adr X.G a 0 35) :: st) ce sl) : wk X a s nL pc lv (.ref (adr X.G a 0 34) :: st) ce sl := k_get hC inX5 (ci := 5) rfl (fx_in f0_34) rfl (slot := 0) (by decide) hw rfl hd kk
theorem gf_X5_1 {X : Kx} {cc : ByteArray} {nL : Nat} {own : String} {a : Ax} {s : Sx} {lv : List (Nat × Value)} {st : List Value} {ce sl pc ix : Nat} (hC : Cx X cc nL own)  (hw : Cond.fieldLink own ix "CampYears$Places" "y" "[I" ∈ gw) (hd : decode cc pc = .ok (.getfield ix, 3)) (kk : wk X a s nL (pc + 3) lv (.ref (adr X.G a 0 36) :: st) ce sl) : wk X a s nL pc lv (.ref (adr X.G a 0 34) :: st) ce sl := k_get hC inX5 (ci := 5) rfl (fx_in f0_34) rfl (slot := 1) (by decide) hw rfl hd kk
theorem gf_X5_2 {X : Kx} {cc : ByteArray} {nL : Nat} {own : String} {a : Ax} {s : Sx} {lv : List (Nat × Value)} {st : List Value} {ce sl pc ix : Nat} (hC : Cx X cc nL own)  (hw : Cond.fieldLink own ix "CampYears$Places" "reach" "[I" ∈ gw) (hd : decode cc pc = .ok (.getfield ix, 3)) (kk : wk X a s nL (pc + 3) lv (.ref (adr X.G a 0 37) :: st) ce sl) : wk X a s nL pc lv (.ref (adr X.G a 0 34) :: st) ce sl := k_get hC inX5 (ci := 5) rfl (fx_in f0_34) rfl (slot := 2) (by decide) hw rfl hd kk
theorem gf_X5_3 {X : Kx} {cc : ByteArray} {nL : Nat} {own : String} {a : Ax} {s : Sx} {lv : List (Nat × Value)} {st : List Value} {ce sl pc ix : Nat} (hC : Cx X cc nL own)  (hw : Cond.fieldLink own ix "CampYears$Places" "water" "[Z" ∈ gw) (hd : decode cc pc = .ok (.getfield ix, 3)) (kk : wk X a s nL (pc + 3) lv (.ref (adr X.G a 0 38) :: st) ce sl) : wk X a s nL pc lv (.ref (adr X.G a 0 34) :: st) ce sl := k_get hC inX5 (ci := 5) rfl (fx_in f0_34) rfl (slot := 3) (by decide) hw rfl hd kk
theorem gf_X5_4 {X : Kx} {cc : ByteArray} {nL : Nat} {own : String} {a : Ax} {s : Sx} {lv : List (Nat × Value)} {st : List Value} {ce sl pc ix : Nat} (hC : Cx X cc nL own)  (hw : Cond.fieldLink own ix "CampYears$Places" "count" "I" ∈ gw) (hd : decode cc pc = .ok (.getfield ix, 3)) (kk : wk X a s nL (pc + 3) lv (.int (s.1 0 34 4) :: st) ce sl) : wk X a s nL pc lv (.ref (adr X.G a 0 34) :: st) ce sl := k_get hC inX5 (ci := 5) rfl (fx_in f0_34) rfl (slot := 4) (by decide) hw rfl hd kk
theorem pf_X5_4 {X : Kx} {cc : ByteArray} {nL : Nat} {own : String} {a : Ax} {s : Sx} {lv : List (Nat × Value)} {st : List Value} {ce sl pc ix : Nat} (hC : Cx X cc nL own)  {v : Int32} (hw : Cond.fieldLink own ix "CampYears$Places" "count" "I" ∈ gw) (hd : decode cc pc = .ok (.putfield ix, 3)) (kk : ∀ s1, s1 = setI s 0 34 4 v → wk X a s1 nL (pc + 3) lv st ce sl) : wk X a s nL pc lv (.int v :: .ref (adr X.G a 0 34) :: st) ce sl := k_put hC inX5 (ty0 := tyX5) tyX5_ok nmX5 (ci := 5) rfl (fx_in f0_34) rfl rfl (slot := 4) (by decide) hw rfl (by decide +kernel) (Nat.le_of_ble_eq_true rfl) hd (kk _ rfl)
theorem gf_X5_5 {X : Kx} {cc : ByteArray} {nL : Nat} {own : String} {a : Ax} {s : Sx} {lv : List (Nat × Value)} {st : List Value} {ce sl pc ix : Nat} (hC : Cx X cc nL own)  (hw : Cond.fieldLink own ix "CampYears$Places" "most" "[I" ∈ gw) (hd : decode cc pc = .ok (.getfield ix, 3)) (kk : wk X a s nL (pc + 3) lv (.ref (adr X.G a 0 39) :: st) ce sl) : wk X a s nL pc lv (.ref (adr X.G a 0 34) :: st) ce sl := k_get hC inX5 (ci := 5) rfl (fx_in f0_34) rfl (slot := 5) (by decide) hw rfl hd kk
theorem gf_X5_6 {X : Kx} {cc : ByteArray} {nL : Nat} {own : String} {a : Ax} {s : Sx} {lv : List (Nat × Value)} {st : List Value} {ce sl pc ix : Nat} (hC : Cx X cc nL own)  (hw : Cond.fieldLink own ix "CampYears$Places" "chosen" "[I" ∈ gw) (hd : decode cc pc = .ok (.getfield ix, 3)) (kk : wk X a s nL (pc + 3) lv (.ref (adr X.G a 0 40) :: st) ce sl) : wk X a s nL pc lv (.ref (adr X.G a 0 34) :: st) ce sl := k_get hC inX5 (ci := 5) rfl (fx_in f0_34) rfl (slot := 6) (by decide) hw rfl hd kk
theorem gf_X6_0 {X : Kx} {cc : ByteArray} {nL : Nat} {own : String} {a : Ax} {s : Sx} {lv : List (Nat × Value)} {st : List Value} {ce sl pc ix : Nat} (hC : Cx X cc nL own) {p : Nat} (hp : p < s.2.2 0) (hw : Cond.fieldLink own ix "CampYears$Post" "kind" "I" ∈ gw) (hd : decode cc pc = .ok (.getfield ix, 3)) (kk : wk X a s nL (pc + 3) lv (.int (s.1 1 p 0) :: st) ce sl) : wk X a s nL pc lv (.ref (adr X.G a 1 p) :: st) ce sl := k_get hC inX6 (ci := 6) rfl (px_in hp) rfl (slot := 0) (by decide) hw rfl hd kk
theorem pf_X6_0 {X : Kx} {cc : ByteArray} {nL : Nat} {own : String} {a : Ax} {s : Sx} {lv : List (Nat × Value)} {st : List Value} {ce sl pc ix : Nat} (hC : Cx X cc nL own) (hi : X.meth.name = "<init>") {p : Nat} (hp : p < s.2.2 0) {v : Int32} (hown : own = "CampYears$Post") (hw : Cond.fieldLink own ix "CampYears$Post" "kind" "I" ∈ gw) (hd : decode cc pc = .ok (.putfield ix, 3)) (kk : ∀ s1, s1 = setI s 1 p 0 v → wk X a s1 nL (pc + 3) lv st ce sl) : wk X a s nL pc lv (.int v :: .ref (adr X.G a 1 p) :: st) ce sl := k_putF hC hi inX6 (ty0 := tyX6) tyX6_ok nmX6 (ci := 6) rfl (px_in hp) rfl rfl (slot := 0) (by decide) hw rfl hown.symm (by decide +kernel) (Nat.le_of_ble_eq_true rfl) hd (kk _ rfl)
theorem gf_X6_1 {X : Kx} {cc : ByteArray} {nL : Nat} {own : String} {a : Ax} {s : Sx} {lv : List (Nat × Value)} {st : List Value} {ce sl pc ix : Nat} (hC : Cx X cc nL own) {p : Nat} (hp : p < s.2.2 0) (hw : Cond.fieldLink own ix "CampYears$Post" "man" "I" ∈ gw) (hd : decode cc pc = .ok (.getfield ix, 3)) (kk : wk X a s nL (pc + 3) lv (.int (s.1 1 p 1) :: st) ce sl) : wk X a s nL pc lv (.ref (adr X.G a 1 p) :: st) ce sl := k_get hC inX6 (ci := 6) rfl (px_in hp) rfl (slot := 1) (by decide) hw rfl hd kk
theorem pf_X6_1 {X : Kx} {cc : ByteArray} {nL : Nat} {own : String} {a : Ax} {s : Sx} {lv : List (Nat × Value)} {st : List Value} {ce sl pc ix : Nat} (hC : Cx X cc nL own) (hi : X.meth.name = "<init>") {p : Nat} (hp : p < s.2.2 0) {v : Int32} (hown : own = "CampYears$Post") (hw : Cond.fieldLink own ix "CampYears$Post" "man" "I" ∈ gw) (hd : decode cc pc = .ok (.putfield ix, 3)) (kk : ∀ s1, s1 = setI s 1 p 1 v → wk X a s1 nL (pc + 3) lv st ce sl) : wk X a s nL pc lv (.int v :: .ref (adr X.G a 1 p) :: st) ce sl := k_putF hC hi inX6 (ty0 := tyX6) tyX6_ok nmX6 (ci := 6) rfl (px_in hp) rfl rfl (slot := 1) (by decide) hw rfl hown.symm (by decide +kernel) (Nat.le_of_ble_eq_true rfl) hd (kk _ rfl)
theorem gf_X6_2 {X : Kx} {cc : ByteArray} {nL : Nat} {own : String} {a : Ax} {s : Sx} {lv : List (Nat × Value)} {st : List Value} {ce sl pc ix : Nat} (hC : Cx X cc nL own) {p : Nat} (hp : p < s.2.2 0) (hw : Cond.fieldLink own ix "CampYears$Post" "camp" "I" ∈ gw) (hd : decode cc pc = .ok (.getfield ix, 3)) (kk : wk X a s nL (pc + 3) lv (.int (s.1 1 p 2) :: st) ce sl) : wk X a s nL pc lv (.ref (adr X.G a 1 p) :: st) ce sl := k_get hC inX6 (ci := 6) rfl (px_in hp) rfl (slot := 2) (by decide) hw rfl hd kk
theorem pf_X6_2 {X : Kx} {cc : ByteArray} {nL : Nat} {own : String} {a : Ax} {s : Sx} {lv : List (Nat × Value)} {st : List Value} {ce sl pc ix : Nat} (hC : Cx X cc nL own) (hi : X.meth.name = "<init>") {p : Nat} (hp : p < s.2.2 0) {v : Int32} (hown : own = "CampYears$Post") (hw : Cond.fieldLink own ix "CampYears$Post" "camp" "I" ∈ gw) (hd : decode cc pc = .ok (.putfield ix, 3)) (kk : ∀ s1, s1 = setI s 1 p 2 v → wk X a s1 nL (pc + 3) lv st ce sl) : wk X a s nL pc lv (.int v :: .ref (adr X.G a 1 p) :: st) ce sl := k_putF hC hi inX6 (ty0 := tyX6) tyX6_ok nmX6 (ci := 6) rfl (px_in hp) rfl rfl (slot := 2) (by decide) hw rfl hown.symm (by decide +kernel) (Nat.le_of_ble_eq_true rfl) hd (kk _ rfl)
theorem gf_X6_3 {X : Kx} {cc : ByteArray} {nL : Nat} {own : String} {a : Ax} {s : Sx} {lv : List (Nat × Value)} {st : List Value} {ce sl pc ix : Nat} (hC : Cx X cc nL own) {p : Nat} (hp : p < s.2.2 0) (hw : Cond.fieldLink own ix "CampYears$Post" "from" "I" ∈ gw) (hd : decode cc pc = .ok (.getfield ix, 3)) (kk : wk X a s nL (pc + 3) lv (.int (s.1 1 p 3) :: st) ce sl) : wk X a s nL pc lv (.ref (adr X.G a 1 p) :: st) ce sl := k_get hC inX6 (ci := 6) rfl (px_in hp) rfl (slot := 3) (by decide) hw rfl hd kk
theorem pf_X6_3 {X : Kx} {cc : ByteArray} {nL : Nat} {own : String} {a : Ax} {s : Sx} {lv : List (Nat × Value)} {st : List Value} {ce sl pc ix : Nat} (hC : Cx X cc nL own) (hi : X.meth.name = "<init>") {p : Nat} (hp : p < s.2.2 0) {v : Int32} (hown : own = "CampYears$Post") (hw : Cond.fieldLink own ix "CampYears$Post" "from" "I" ∈ gw) (hd : decode cc pc = .ok (.putfield ix, 3)) (kk : ∀ s1, s1 = setI s 1 p 3 v → wk X a s1 nL (pc + 3) lv st ce sl) : wk X a s nL pc lv (.int v :: .ref (adr X.G a 1 p) :: st) ce sl := k_putF hC hi inX6 (ty0 := tyX6) tyX6_ok nmX6 (ci := 6) rfl (px_in hp) rfl rfl (slot := 3) (by decide) hw rfl hown.symm (by decide +kernel) (Nat.le_of_ble_eq_true rfl) hd (kk _ rfl)
theorem gf_X6_4 {X : Kx} {cc : ByteArray} {nL : Nat} {own : String} {a : Ax} {s : Sx} {lv : List (Nat × Value)} {st : List Value} {ce sl pc ix : Nat} (hC : Cx X cc nL own) {p : Nat} (hp : p < s.2.2 0) (hw : Cond.fieldLink own ix "CampYears$Post" "till" "I" ∈ gw) (hd : decode cc pc = .ok (.getfield ix, 3)) (kk : wk X a s nL (pc + 3) lv (.int (s.1 1 p 4) :: st) ce sl) : wk X a s nL pc lv (.ref (adr X.G a 1 p) :: st) ce sl := k_get hC inX6 (ci := 6) rfl (px_in hp) rfl (slot := 4) (by decide) hw rfl hd kk
theorem pf_X6_4 {X : Kx} {cc : ByteArray} {nL : Nat} {own : String} {a : Ax} {s : Sx} {lv : List (Nat × Value)} {st : List Value} {ce sl pc ix : Nat} (hC : Cx X cc nL own) (hi : X.meth.name = "<init>") {p : Nat} (hp : p < s.2.2 0) {v : Int32} (hown : own = "CampYears$Post") (hw : Cond.fieldLink own ix "CampYears$Post" "till" "I" ∈ gw) (hd : decode cc pc = .ok (.putfield ix, 3)) (kk : ∀ s1, s1 = setI s 1 p 4 v → wk X a s1 nL (pc + 3) lv st ce sl) : wk X a s nL pc lv (.int v :: .ref (adr X.G a 1 p) :: st) ce sl := k_putF hC hi inX6 (ty0 := tyX6) tyX6_ok nmX6 (ci := 6) rfl (px_in hp) rfl rfl (slot := 4) (by decide) hw rfl hown.symm (by decide +kernel) (Nat.le_of_ble_eq_true rfl) hd (kk _ rfl)
theorem gf_X7_0 {X : Kx} {cc : ByteArray} {nL : Nat} {own : String} {a : Ax} {s : Sx} {lv : List (Nat × Value)} {st : List Value} {ce sl pc ix : Nat} (hC : Cx X cc nL own) {k : Nat} (hk : k < 4) (hw : Cond.fieldLink own ix "CampYears$Sheet" "cells" "[I" ∈ gw) (hd : decode cc pc = .ok (.getfield ix, 3)) (kk : wk X a s nL (pc + 3) lv (.ref (adr X.G a 0 (46 + k)) :: st) ce sl) : wk X a s nL pc lv (.ref (adr X.G a 0 (42 + k)) :: st) ce sl := k_get hC inX7 (ci := 7) rfl (fx_in (sh_f hk)) (sh_c hk _ _ _ _ _) (slot := 0) (by decide) hw rfl hd kk
theorem gf_X7_1 {X : Kx} {cc : ByteArray} {nL : Nat} {own : String} {a : Ax} {s : Sx} {lv : List (Nat × Value)} {st : List Value} {ce sl pc ix : Nat} (hC : Cx X cc nL own) {k : Nat} (hk : k < 4) (hw : Cond.fieldLink own ix "CampYears$Sheet" "lane" "I" ∈ gw) (hd : decode cc pc = .ok (.getfield ix, 3)) (kk : wk X a s nL (pc + 3) lv (.int (s.1 0 (42 + k) 1) :: st) ce sl) : wk X a s nL pc lv (.ref (adr X.G a 0 (42 + k)) :: st) ce sl := k_get hC inX7 (ci := 7) rfl (fx_in (sh_f hk)) (sh_c hk _ _ _ _ _) (slot := 1) (by decide) hw rfl hd kk
theorem pf_X7_1 {X : Kx} {cc : ByteArray} {nL : Nat} {own : String} {a : Ax} {s : Sx} {lv : List (Nat × Value)} {st : List Value} {ce sl pc ix : Nat} (hC : Cx X cc nL own) {k : Nat} (hk : k < 4) {v : Int32} (hw : Cond.fieldLink own ix "CampYears$Sheet" "lane" "I" ∈ gw) (hd : decode cc pc = .ok (.putfield ix, 3)) (kk : ∀ s1, s1 = setI s 0 (42 + k) 1 v → wk X a s1 nL (pc + 3) lv st ce sl) : wk X a s nL pc lv (.int v :: .ref (adr X.G a 0 (42 + k)) :: st) ce sl := k_put hC inX7 (ty0 := tyX7) tyX7_ok nmX7 (ci := 7) rfl (fx_in (sh_f hk)) (sh_c hk _ _ _ _ _) (sh_c hk _ _ _ _ _) (slot := 1) (by decide) hw rfl (by decide +kernel) (Nat.le_of_ble_eq_true rfl) hd (kk _ rfl)
theorem gf_X7_2 {X : Kx} {cc : ByteArray} {nL : Nat} {own : String} {a : Ax} {s : Sx} {lv : List (Nat × Value)} {st : List Value} {ce sl pc ix : Nat} (hC : Cx X cc nL own) {k : Nat} (hk : k < 4) (hw : Cond.fieldLink own ix "CampYears$Sheet" "size" "I" ∈ gw) (hd : decode cc pc = .ok (.getfield ix, 3)) (kk : wk X a s nL (pc + 3) lv (.int (s.1 0 (42 + k) 2) :: st) ce sl) : wk X a s nL pc lv (.ref (adr X.G a 0 (42 + k)) :: st) ce sl := k_get hC inX7 (ci := 7) rfl (fx_in (sh_f hk)) (sh_c hk _ _ _ _ _) (slot := 2) (by decide) hw rfl hd kk
theorem pf_X7_2 {X : Kx} {cc : ByteArray} {nL : Nat} {own : String} {a : Ax} {s : Sx} {lv : List (Nat × Value)} {st : List Value} {ce sl pc ix : Nat} (hC : Cx X cc nL own) {k : Nat} (hk : k < 4) {v : Int32} (hw : Cond.fieldLink own ix "CampYears$Sheet" "size" "I" ∈ gw) (hd : decode cc pc = .ok (.putfield ix, 3)) (kk : ∀ s1, s1 = setI s 0 (42 + k) 2 v → wk X a s1 nL (pc + 3) lv st ce sl) : wk X a s nL pc lv (.int v :: .ref (adr X.G a 0 (42 + k)) :: st) ce sl := k_put hC inX7 (ty0 := tyX7) tyX7_ok nmX7 (ci := 7) rfl (fx_in (sh_f hk)) (sh_c hk _ _ _ _ _) (sh_c hk _ _ _ _ _) (slot := 2) (by decide) hw rfl (by decide +kernel) (Nat.le_of_ble_eq_true rfl) hd (kk _ rfl)
theorem gf_X8_0 {X : Kx} {cc : ByteArray} {nL : Nat} {own : String} {a : Ax} {s : Sx} {lv : List (Nat × Value)} {st : List Value} {ce sl pc ix : Nat} (hC : Cx X cc nL own)  (hw : Cond.fieldLink own ix "CampYears$Trees" "kind" "[I" ∈ gw) (hd : decode cc pc = .ok (.getfield ix, 3)) (kk : wk X a s nL (pc + 3) lv (.ref (adr X.G a 0 20) :: st) ce sl) : wk X a s nL pc lv (.ref (adr X.G a 0 19) :: st) ce sl := k_get hC inX8 (ci := 8) rfl (fx_in f0_19) rfl (slot := 0) (by decide) hw rfl hd kk
theorem gf_X8_1 {X : Kx} {cc : ByteArray} {nL : Nat} {own : String} {a : Ax} {s : Sx} {lv : List (Nat × Value)} {st : List Value} {ce sl pc ix : Nat} (hC : Cx X cc nL own)  (hw : Cond.fieldLink own ix "CampYears$Trees" "slope" "[I" ∈ gw) (hd : decode cc pc = .ok (.getfield ix, 3)) (kk : wk X a s nL (pc + 3) lv (.ref (adr X.G a 0 21) :: st) ce sl) : wk X a s nL pc lv (.ref (adr X.G a 0 19) :: st) ce sl := k_get hC inX8 (ci := 8) rfl (fx_in f0_19) rfl (slot := 1) (by decide) hw rfl hd kk
theorem gf_X8_2 {X : Kx} {cc : ByteArray} {nL : Nat} {own : String} {a : Ax} {s : Sx} {lv : List (Nat × Value)} {st : List Value} {ce sl pc ix : Nat} (hC : Cx X cc nL own)  (hw : Cond.fieldLink own ix "CampYears$Trees" "planted" "[I" ∈ gw) (hd : decode cc pc = .ok (.getfield ix, 3)) (kk : wk X a s nL (pc + 3) lv (.ref (adr X.G a 0 22) :: st) ce sl) : wk X a s nL pc lv (.ref (adr X.G a 0 19) :: st) ce sl := k_get hC inX8 (ci := 8) rfl (fx_in f0_19) rfl (slot := 2) (by decide) hw rfl hd kk
theorem gf_X8_3 {X : Kx} {cc : ByteArray} {nL : Nat} {own : String} {a : Ax} {s : Sx} {lv : List (Nat × Value)} {st : List Value} {ce sl pc ix : Nat} (hC : Cx X cc nL own)  (hw : Cond.fieldLink own ix "CampYears$Trees" "year" "[I" ∈ gw) (hd : decode cc pc = .ok (.getfield ix, 3)) (kk : wk X a s nL (pc + 3) lv (.ref (adr X.G a 0 23) :: st) ce sl) : wk X a s nL pc lv (.ref (adr X.G a 0 19) :: st) ce sl := k_get hC inX8 (ci := 8) rfl (fx_in f0_19) rfl (slot := 3) (by decide) hw rfl hd kk
theorem gf_X8_4 {X : Kx} {cc : ByteArray} {nL : Nat} {own : String} {a : Ax} {s : Sx} {lv : List (Nat × Value)} {st : List Value} {ce sl pc ix : Nat} (hC : Cx X cc nL own)  (hw : Cond.fieldLink own ix "CampYears$Trees" "count" "I" ∈ gw) (hd : decode cc pc = .ok (.getfield ix, 3)) (kk : wk X a s nL (pc + 3) lv (.int (s.1 0 19 4) :: st) ce sl) : wk X a s nL pc lv (.ref (adr X.G a 0 19) :: st) ce sl := k_get hC inX8 (ci := 8) rfl (fx_in f0_19) rfl (slot := 4) (by decide) hw rfl hd kk
theorem pf_X8_4 {X : Kx} {cc : ByteArray} {nL : Nat} {own : String} {a : Ax} {s : Sx} {lv : List (Nat × Value)} {st : List Value} {ce sl pc ix : Nat} (hC : Cx X cc nL own)  {v : Int32} (hw : Cond.fieldLink own ix "CampYears$Trees" "count" "I" ∈ gw) (hd : decode cc pc = .ok (.putfield ix, 3)) (kk : ∀ s1, s1 = setI s 0 19 4 v → wk X a s1 nL (pc + 3) lv st ce sl) : wk X a s nL pc lv (.int v :: .ref (adr X.G a 0 19) :: st) ce sl := k_put hC inX8 (ty0 := tyX8) tyX8_ok nmX8 (ci := 8) rfl (fx_in f0_19) rfl rfl (slot := 4) (by decide) hw rfl (by decide +kernel) (Nat.le_of_ble_eq_true rfl) hd (kk _ rfl)
theorem gf_X8_5 {X : Kx} {cc : ByteArray} {nL : Nat} {own : String} {a : Ax} {s : Sx} {lv : List (Nat × Value)} {st : List Value} {ce sl pc ix : Nat} (hC : Cx X cc nL own)  (hw : Cond.fieldLink own ix "CampYears$Trees" "table" "[I" ∈ gw) (hd : decode cc pc = .ok (.getfield ix, 3)) (kk : wk X a s nL (pc + 3) lv (.ref (adr X.G a 0 24) :: st) ce sl) : wk X a s nL pc lv (.ref (adr X.G a 0 19) :: st) ce sl := k_get hC inX8 (ci := 8) rfl (fx_in f0_19) rfl (slot := 5) (by decide) hw rfl hd kk
theorem gf_X9_0 {X : Kx} {cc : ByteArray} {nL : Nat} {own : String} {a : Ax} {s : Sx} {lv : List (Nat × Value)} {st : List Value} {ce sl pc ix : Nat} (hC : Cx X cc nL own) {p : Nat} (hp : p < s.2.2 4) (hw : Cond.fieldLink own ix "CampYears$Work" "camp" "I" ∈ gw) (hd : decode cc pc = .ok (.getfield ix, 3)) (kk : wk X a s nL (pc + 3) lv (.int (s.1 3 p 0) :: st) ce sl) : wk X a s nL pc lv (.ref (adr X.G a 3 p) :: st) ce sl := k_get hC inX9 (ci := 9) rfl (wx_in hp) rfl (slot := 0) (by decide) hw rfl hd kk
theorem pf_X9_0 {X : Kx} {cc : ByteArray} {nL : Nat} {own : String} {a : Ax} {s : Sx} {lv : List (Nat × Value)} {st : List Value} {ce sl pc ix : Nat} (hC : Cx X cc nL own) (hi : X.meth.name = "<init>") {p : Nat} (hp : p < s.2.2 4) {v : Int32} (hown : own = "CampYears$Work") (hw : Cond.fieldLink own ix "CampYears$Work" "camp" "I" ∈ gw) (hd : decode cc pc = .ok (.putfield ix, 3)) (kk : ∀ s1, s1 = setI s 3 p 0 v → wk X a s1 nL (pc + 3) lv st ce sl) : wk X a s nL pc lv (.int v :: .ref (adr X.G a 3 p) :: st) ce sl := k_putF hC hi inX9 (ty0 := tyX9) tyX9_ok nmX9 (ci := 9) rfl (wx_in hp) rfl rfl (slot := 0) (by decide) hw rfl hown.symm (by decide +kernel) (Nat.le_of_ble_eq_true rfl) hd (kk _ rfl)
theorem gf_X9_1 {X : Kx} {cc : ByteArray} {nL : Nat} {own : String} {a : Ax} {s : Sx} {lv : List (Nat × Value)} {st : List Value} {ce sl pc ix : Nat} (hC : Cx X cc nL own) {p : Nat} (hp : p < s.2.2 4) (hw : Cond.fieldLink own ix "CampYears$Work" "need" "I" ∈ gw) (hd : decode cc pc = .ok (.getfield ix, 3)) (kk : wk X a s nL (pc + 3) lv (.int (s.1 3 p 1) :: st) ce sl) : wk X a s nL pc lv (.ref (adr X.G a 3 p) :: st) ce sl := k_get hC inX9 (ci := 9) rfl (wx_in hp) rfl (slot := 1) (by decide) hw rfl hd kk
theorem pf_X9_1 {X : Kx} {cc : ByteArray} {nL : Nat} {own : String} {a : Ax} {s : Sx} {lv : List (Nat × Value)} {st : List Value} {ce sl pc ix : Nat} (hC : Cx X cc nL own) (hi : X.meth.name = "<init>") {p : Nat} (hp : p < s.2.2 4) {v : Int32} (hown : own = "CampYears$Work") (hw : Cond.fieldLink own ix "CampYears$Work" "need" "I" ∈ gw) (hd : decode cc pc = .ok (.putfield ix, 3)) (kk : ∀ s1, s1 = setI s 3 p 1 v → wk X a s1 nL (pc + 3) lv st ce sl) : wk X a s nL pc lv (.int v :: .ref (adr X.G a 3 p) :: st) ce sl := k_putF hC hi inX9 (ty0 := tyX9) tyX9_ok nmX9 (ci := 9) rfl (wx_in hp) rfl rfl (slot := 1) (by decide) hw rfl hown.symm (by decide +kernel) (Nat.le_of_ble_eq_true rfl) hd (kk _ rfl)
theorem gf_X9_2 {X : Kx} {cc : ByteArray} {nL : Nat} {own : String} {a : Ax} {s : Sx} {lv : List (Nat × Value)} {st : List Value} {ce sl pc ix : Nat} (hC : Cx X cc nL own) {p : Nat} (hp : p < s.2.2 4) (hw : Cond.fieldLink own ix "CampYears$Work" "tools" "I" ∈ gw) (hd : decode cc pc = .ok (.getfield ix, 3)) (kk : wk X a s nL (pc + 3) lv (.int (s.1 3 p 2) :: st) ce sl) : wk X a s nL pc lv (.ref (adr X.G a 3 p) :: st) ce sl := k_get hC inX9 (ci := 9) rfl (wx_in hp) rfl (slot := 2) (by decide) hw rfl hd kk
theorem pf_X9_2 {X : Kx} {cc : ByteArray} {nL : Nat} {own : String} {a : Ax} {s : Sx} {lv : List (Nat × Value)} {st : List Value} {ce sl pc ix : Nat} (hC : Cx X cc nL own) {p : Nat} (hp : p < s.2.2 4) {v : Int32} (hw : Cond.fieldLink own ix "CampYears$Work" "tools" "I" ∈ gw) (hd : decode cc pc = .ok (.putfield ix, 3)) (kk : ∀ s1, s1 = setI s 3 p 2 v → wk X a s1 nL (pc + 3) lv st ce sl) : wk X a s nL pc lv (.int v :: .ref (adr X.G a 3 p) :: st) ce sl := k_put hC inX9 (ty0 := tyX9) tyX9_ok nmX9 (ci := 9) rfl (wx_in hp) rfl rfl (slot := 2) (by decide) hw rfl (by decide +kernel) (Nat.le_of_ble_eq_true rfl) hd (kk _ rfl)
theorem gf_X9_3 {X : Kx} {cc : ByteArray} {nL : Nat} {own : String} {a : Ax} {s : Sx} {lv : List (Nat × Value)} {st : List Value} {ce sl pc ix : Nat} (hC : Cx X cc nL own) {p : Nat} (hp : p < s.2.2 4) (hw : Cond.fieldLink own ix "CampYears$Work" "hands" "I" ∈ gw) (hd : decode cc pc = .ok (.getfield ix, 3)) (kk : wk X a s nL (pc + 3) lv (.int (s.1 3 p 3) :: st) ce sl) : wk X a s nL pc lv (.ref (adr X.G a 3 p) :: st) ce sl := k_get hC inX9 (ci := 9) rfl (wx_in hp) rfl (slot := 3) (by decide) hw rfl hd kk
theorem pf_X9_3 {X : Kx} {cc : ByteArray} {nL : Nat} {own : String} {a : Ax} {s : Sx} {lv : List (Nat × Value)} {st : List Value} {ce sl pc ix : Nat} (hC : Cx X cc nL own) {p : Nat} (hp : p < s.2.2 4) {v : Int32} (hw : Cond.fieldLink own ix "CampYears$Work" "hands" "I" ∈ gw) (hd : decode cc pc = .ok (.putfield ix, 3)) (kk : ∀ s1, s1 = setI s 3 p 3 v → wk X a s1 nL (pc + 3) lv st ce sl) : wk X a s nL pc lv (.int v :: .ref (adr X.G a 3 p) :: st) ce sl := k_put hC inX9 (ty0 := tyX9) tyX9_ok nmX9 (ci := 9) rfl (wx_in hp) rfl rfl (slot := 3) (by decide) hw rfl (by decide +kernel) (Nat.le_of_ble_eq_true rfl) hd (kk _ rfl)
theorem gf_X9_4 {X : Kx} {cc : ByteArray} {nL : Nat} {own : String} {a : Ax} {s : Sx} {lv : List (Nat × Value)} {st : List Value} {ce sl pc ix : Nat} (hC : Cx X cc nL own) {p : Nat} (hp : p < s.2.2 4) (hw : Cond.fieldLink own ix "CampYears$Work" "done" "I" ∈ gw) (hd : decode cc pc = .ok (.getfield ix, 3)) (kk : wk X a s nL (pc + 3) lv (.int (s.1 3 p 4) :: st) ce sl) : wk X a s nL pc lv (.ref (adr X.G a 3 p) :: st) ce sl := k_get hC inX9 (ci := 9) rfl (wx_in hp) rfl (slot := 4) (by decide) hw rfl hd kk
theorem pf_X9_4 {X : Kx} {cc : ByteArray} {nL : Nat} {own : String} {a : Ax} {s : Sx} {lv : List (Nat × Value)} {st : List Value} {ce sl pc ix : Nat} (hC : Cx X cc nL own) {p : Nat} (hp : p < s.2.2 4) {v : Int32} (hw : Cond.fieldLink own ix "CampYears$Work" "done" "I" ∈ gw) (hd : decode cc pc = .ok (.putfield ix, 3)) (kk : ∀ s1, s1 = setI s 3 p 4 v → wk X a s1 nL (pc + 3) lv st ce sl) : wk X a s nL pc lv (.int v :: .ref (adr X.G a 3 p) :: st) ce sl := k_put hC inX9 (ty0 := tyX9) tyX9_ok nmX9 (ci := 9) rfl (wx_in hp) rfl rfl (slot := 4) (by decide) hw rfl (by decide +kernel) (Nat.le_of_ble_eq_true rfl) hd (kk _ rfl)
theorem gf_X9_5 {X : Kx} {cc : ByteArray} {nL : Nat} {own : String} {a : Ax} {s : Sx} {lv : List (Nat × Value)} {st : List Value} {ce sl pc ix : Nat} (hC : Cx X cc nL own) {p : Nat} (hp : p < s.2.2 4) (hw : Cond.fieldLink own ix "CampYears$Work" "noTool" "I" ∈ gw) (hd : decode cc pc = .ok (.getfield ix, 3)) (kk : wk X a s nL (pc + 3) lv (.int (s.1 3 p 5) :: st) ce sl) : wk X a s nL pc lv (.ref (adr X.G a 3 p) :: st) ce sl := k_get hC inX9 (ci := 9) rfl (wx_in hp) rfl (slot := 5) (by decide) hw rfl hd kk
theorem pf_X9_5 {X : Kx} {cc : ByteArray} {nL : Nat} {own : String} {a : Ax} {s : Sx} {lv : List (Nat × Value)} {st : List Value} {ce sl pc ix : Nat} (hC : Cx X cc nL own) {p : Nat} (hp : p < s.2.2 4) {v : Int32} (hw : Cond.fieldLink own ix "CampYears$Work" "noTool" "I" ∈ gw) (hd : decode cc pc = .ok (.putfield ix, 3)) (kk : ∀ s1, s1 = setI s 3 p 5 v → wk X a s1 nL (pc + 3) lv st ce sl) : wk X a s nL pc lv (.int v :: .ref (adr X.G a 3 p) :: st) ce sl := k_put hC inX9 (ty0 := tyX9) tyX9_ok nmX9 (ci := 9) rfl (wx_in hp) rfl rfl (slot := 5) (by decide) hw rfl (by decide +kernel) (Nat.le_of_ble_eq_true rfl) hd (kk _ rfl)
theorem gf_X9_6 {X : Kx} {cc : ByteArray} {nL : Nat} {own : String} {a : Ax} {s : Sx} {lv : List (Nat × Value)} {st : List Value} {ce sl pc ix : Nat} (hC : Cx X cc nL own) {p : Nat} (hp : p < s.2.2 4) (hw : Cond.fieldLink own ix "CampYears$Work" "noDay" "I" ∈ gw) (hd : decode cc pc = .ok (.getfield ix, 3)) (kk : wk X a s nL (pc + 3) lv (.int (s.1 3 p 6) :: st) ce sl) : wk X a s nL pc lv (.ref (adr X.G a 3 p) :: st) ce sl := k_get hC inX9 (ci := 9) rfl (wx_in hp) rfl (slot := 6) (by decide) hw rfl hd kk
theorem pf_X9_6 {X : Kx} {cc : ByteArray} {nL : Nat} {own : String} {a : Ax} {s : Sx} {lv : List (Nat × Value)} {st : List Value} {ce sl pc ix : Nat} (hC : Cx X cc nL own) {p : Nat} (hp : p < s.2.2 4) {v : Int32} (hw : Cond.fieldLink own ix "CampYears$Work" "noDay" "I" ∈ gw) (hd : decode cc pc = .ok (.putfield ix, 3)) (kk : ∀ s1, s1 = setI s 3 p 6 v → wk X a s1 nL (pc + 3) lv st ce sl) : wk X a s nL pc lv (.int v :: .ref (adr X.G a 3 p) :: st) ce sl := k_put hC inX9 (ty0 := tyX9) tyX9_ok nmX9 (ci := 9) rfl (wx_in hp) rfl rfl (slot := 6) (by decide) hw rfl (by decide +kernel) (Nat.le_of_ble_eq_true rfl) hd (kk _ rfl)
theorem gf_X9_7 {X : Kx} {cc : ByteArray} {nL : Nat} {own : String} {a : Ax} {s : Sx} {lv : List (Nat × Value)} {st : List Value} {ce sl pc ix : Nat} (hC : Cx X cc nL own) {p : Nat} (hp : p < s.2.2 4) (hw : Cond.fieldLink own ix "CampYears$Work" "counted" "I" ∈ gw) (hd : decode cc pc = .ok (.getfield ix, 3)) (kk : wk X a s nL (pc + 3) lv (.int (s.1 3 p 7) :: st) ce sl) : wk X a s nL pc lv (.ref (adr X.G a 3 p) :: st) ce sl := k_get hC inX9 (ci := 9) rfl (wx_in hp) rfl (slot := 7) (by decide) hw rfl hd kk
theorem pf_X9_7 {X : Kx} {cc : ByteArray} {nL : Nat} {own : String} {a : Ax} {s : Sx} {lv : List (Nat × Value)} {st : List Value} {ce sl pc ix : Nat} (hC : Cx X cc nL own) {p : Nat} (hp : p < s.2.2 4) {v : Int32} (hw : Cond.fieldLink own ix "CampYears$Work" "counted" "I" ∈ gw) (hd : decode cc pc = .ok (.putfield ix, 3)) (kk : ∀ s1, s1 = setI s 3 p 7 v → wk X a s1 nL (pc + 3) lv st ce sl) : wk X a s nL pc lv (.int v :: .ref (adr X.G a 3 p) :: st) ce sl := k_put hC inX9 (ty0 := tyX9) tyX9_ok nmX9 (ci := 9) rfl (wx_in hp) rfl rfl (slot := 7) (by decide) hw rfl (by decide +kernel) (Nat.le_of_ble_eq_true rfl) hd (kk _ rfl)
theorem gf_X10_0 {X : Kx} {cc : ByteArray} {nL : Nat} {own : String} {a : Ax} {s : Sx} {lv : List (Nat × Value)} {st : List Value} {ce sl pc ix : Nat} (hC : Cx X cc nL own)  (hw : Cond.fieldLink own ix "CampYears$Works" "works" "[LCampYears$Work;" ∈ gw) (hd : decode cc pc = .ok (.getfield ix, 3)) (kk : wk X a s nL (pc + 3) lv (.ref (adr X.G a 0 15) :: st) ce sl) : wk X a s nL pc lv (.ref (adr X.G a 0 14) :: st) ce sl := k_get hC inX10 (ci := 10) rfl (fx_in f0_14) rfl (slot := 0) (by decide) hw rfl hd kk
theorem gf_X10_1 {X : Kx} {cc : ByteArray} {nL : Nat} {own : String} {a : Ax} {s : Sx} {lv : List (Nat × Value)} {st : List Value} {ce sl pc ix : Nat} (hC : Cx X cc nL own)  (hw : Cond.fieldLink own ix "CampYears$Works" "count" "I" ∈ gw) (hd : decode cc pc = .ok (.getfield ix, 3)) (kk : wk X a s nL (pc + 3) lv (.int (s.1 0 14 1) :: st) ce sl) : wk X a s nL pc lv (.ref (adr X.G a 0 14) :: st) ce sl := k_get hC inX10 (ci := 10) rfl (fx_in f0_14) rfl (slot := 1) (by decide) hw rfl hd kk
theorem pf_X10_1 {X : Kx} {cc : ByteArray} {nL : Nat} {own : String} {a : Ax} {s : Sx} {lv : List (Nat × Value)} {st : List Value} {ce sl pc ix : Nat} (hC : Cx X cc nL own)  {v : Int32} (hw : Cond.fieldLink own ix "CampYears$Works" "count" "I" ∈ gw) (hd : decode cc pc = .ok (.putfield ix, 3)) (kk : ∀ s1, s1 = setI s 0 14 1 v → wk X a s1 nL (pc + 3) lv st ce sl) : wk X a s nL pc lv (.int v :: .ref (adr X.G a 0 14) :: st) ce sl := k_put hC inX10 (ty0 := tyX10) tyX10_ok nmX10 (ci := 10) rfl (fx_in f0_14) rfl rfl (slot := 1) (by decide) hw rfl (by decide +kernel) (Nat.le_of_ble_eq_true rfl) hd (kk _ rfl)
theorem gf_X10_2 {X : Kx} {cc : ByteArray} {nL : Nat} {own : String} {a : Ax} {s : Sx} {lv : List (Nat × Value)} {st : List Value} {ce sl pc ix : Nat} (hC : Cx X cc nL own)  (hw : Cond.fieldLink own ix "CampYears$Works" "weather" "[I" ∈ gw) (hd : decode cc pc = .ok (.getfield ix, 3)) (kk : wk X a s nL (pc + 3) lv (.ref (adr X.G a 0 16) :: st) ce sl) : wk X a s nL pc lv (.ref (adr X.G a 0 14) :: st) ce sl := k_get hC inX10 (ci := 10) rfl (fx_in f0_14) rfl (slot := 2) (by decide) hw rfl hd kk
theorem gf_X10_3 {X : Kx} {cc : ByteArray} {nL : Nat} {own : String} {a : Ax} {s : Sx} {lv : List (Nat × Value)} {st : List Value} {ce sl pc ix : Nat} (hC : Cx X cc nL own)  (hw : Cond.fieldLink own ix "CampYears$Works" "weatherCount" "I" ∈ gw) (hd : decode cc pc = .ok (.getfield ix, 3)) (kk : wk X a s nL (pc + 3) lv (.int (s.1 0 14 3) :: st) ce sl) : wk X a s nL pc lv (.ref (adr X.G a 0 14) :: st) ce sl := k_get hC inX10 (ci := 10) rfl (fx_in f0_14) rfl (slot := 3) (by decide) hw rfl hd kk
theorem pf_X10_3 {X : Kx} {cc : ByteArray} {nL : Nat} {own : String} {a : Ax} {s : Sx} {lv : List (Nat × Value)} {st : List Value} {ce sl pc ix : Nat} (hC : Cx X cc nL own)  {v : Int32} (hw : Cond.fieldLink own ix "CampYears$Works" "weatherCount" "I" ∈ gw) (hd : decode cc pc = .ok (.putfield ix, 3)) (kk : ∀ s1, s1 = setI s 0 14 3 v → wk X a s1 nL (pc + 3) lv st ce sl) : wk X a s nL pc lv (.int v :: .ref (adr X.G a 0 14) :: st) ce sl := k_put hC inX10 (ty0 := tyX10) tyX10_ok nmX10 (ci := 10) rfl (fx_in f0_14) rfl rfl (slot := 3) (by decide) hw rfl (by decide +kernel) (Nat.le_of_ble_eq_true rfl) hd (kk _ rfl)
theorem gf_X10_4 {X : Kx} {cc : ByteArray} {nL : Nat} {own : String} {a : Ax} {s : Sx} {lv : List (Nat × Value)} {st : List Value} {ce sl pc ix : Nat} (hC : Cx X cc nL own)  (hw : Cond.fieldLink own ix "CampYears$Works" "weeks" "I" ∈ gw) (hd : decode cc pc = .ok (.getfield ix, 3)) (kk : wk X a s nL (pc + 3) lv (.int (s.1 0 14 4) :: st) ce sl) : wk X a s nL pc lv (.ref (adr X.G a 0 14) :: st) ce sl := k_get hC inX10 (ci := 10) rfl (fx_in f0_14) rfl (slot := 4) (by decide) hw rfl hd kk
theorem pf_X10_4 {X : Kx} {cc : ByteArray} {nL : Nat} {own : String} {a : Ax} {s : Sx} {lv : List (Nat × Value)} {st : List Value} {ce sl pc ix : Nat} (hC : Cx X cc nL own)  {v : Int32} (hw : Cond.fieldLink own ix "CampYears$Works" "weeks" "I" ∈ gw) (hd : decode cc pc = .ok (.putfield ix, 3)) (kk : ∀ s1, s1 = setI s 0 14 4 v → wk X a s1 nL (pc + 3) lv st ce sl) : wk X a s nL pc lv (.int v :: .ref (adr X.G a 0 14) :: st) ce sl := k_put hC inX10 (ty0 := tyX10) tyX10_ok nmX10 (ci := 10) rfl (fx_in f0_14) rfl rfl (slot := 4) (by decide) hw rfl (by decide +kernel) (Nat.le_of_ble_eq_true rfl) hd (kk _ rfl)
theorem gf_X10_5 {X : Kx} {cc : ByteArray} {nL : Nat} {own : String} {a : Ax} {s : Sx} {lv : List (Nat × Value)} {st : List Value} {ce sl pc ix : Nat} (hC : Cx X cc nL own)  (hw : Cond.fieldLink own ix "CampYears$Works" "tellsOn" "[I" ∈ gw) (hd : decode cc pc = .ok (.getfield ix, 3)) (kk : wk X a s nL (pc + 3) lv (.ref (adr X.G a 0 17) :: st) ce sl) : wk X a s nL pc lv (.ref (adr X.G a 0 14) :: st) ce sl := k_get hC inX10 (ci := 10) rfl (fx_in f0_14) rfl (slot := 5) (by decide) hw rfl hd kk
theorem gf_X10_6 {X : Kx} {cc : ByteArray} {nL : Nat} {own : String} {a : Ax} {s : Sx} {lv : List (Nat × Value)} {st : List Value} {ce sl pc ix : Nat} (hC : Cx X cc nL own)  (hw : Cond.fieldLink own ix "CampYears$Works" "tellsBy" "[I" ∈ gw) (hd : decode cc pc = .ok (.getfield ix, 3)) (kk : wk X a s nL (pc + 3) lv (.ref (adr X.G a 0 18) :: st) ce sl) : wk X a s nL pc lv (.ref (adr X.G a 0 14) :: st) ce sl := k_get hC inX10 (ci := 10) rfl (fx_in f0_14) rfl (slot := 6) (by decide) hw rfl hd kk
theorem gf_X11_0 {X : Kx} {cc : ByteArray} {nL : Nat} {own : String} {a : Ax} {s : Sx} {lv : List (Nat × Value)} {st : List Value} {ce sl pc ix : Nat} (hC : Cx X cc nL own)  (hw : Cond.fieldLink own ix "CampYears" "camps" "LCampYears$Camps;" ∈ gw) (hd : decode cc pc = .ok (.getfield ix, 3)) (kk : wk X a s nL (pc + 3) lv (.ref (adr X.G a 0 1) :: st) ce sl) : wk X a s nL pc lv (.ref (adr X.G a 0 0) :: st) ce sl := k_get hC inX11 (ci := 11) rfl (fx_in f0_0) rfl (slot := 0) (by decide) hw rfl hd kk
theorem gf_X11_1 {X : Kx} {cc : ByteArray} {nL : Nat} {own : String} {a : Ax} {s : Sx} {lv : List (Nat × Value)} {st : List Value} {ce sl pc ix : Nat} (hC : Cx X cc nL own)  (hw : Cond.fieldLink own ix "CampYears" "menCount" "I" ∈ gw) (hd : decode cc pc = .ok (.getfield ix, 3)) (kk : wk X a s nL (pc + 3) lv (.int (s.1 0 0 1) :: st) ce sl) : wk X a s nL pc lv (.ref (adr X.G a 0 0) :: st) ce sl := k_get hC inX11 (ci := 11) rfl (fx_in f0_0) rfl (slot := 1) (by decide) hw rfl hd kk
theorem pf_X11_1 {X : Kx} {cc : ByteArray} {nL : Nat} {own : String} {a : Ax} {s : Sx} {lv : List (Nat × Value)} {st : List Value} {ce sl pc ix : Nat} (hC : Cx X cc nL own)  {v : Int32} (hw : Cond.fieldLink own ix "CampYears" "menCount" "I" ∈ gw) (hd : decode cc pc = .ok (.putfield ix, 3)) (kk : ∀ s1, s1 = setI s 0 0 1 v → wk X a s1 nL (pc + 3) lv st ce sl) : wk X a s nL pc lv (.int v :: .ref (adr X.G a 0 0) :: st) ce sl := k_put hC inX11 (ty0 := tyX11) tyX11_ok nmX11 (ci := 11) rfl (fx_in f0_0) rfl rfl (slot := 1) (by decide) hw rfl (by decide +kernel) (Nat.le_of_ble_eq_true rfl) hd (kk _ rfl)
theorem gf_X11_2 {X : Kx} {cc : ByteArray} {nL : Nat} {own : String} {a : Ax} {s : Sx} {lv : List (Nat × Value)} {st : List Value} {ce sl pc ix : Nat} (hC : Cx X cc nL own)  (hw : Cond.fieldLink own ix "CampYears" "posts" "[LCampYears$Post;" ∈ gw) (hd : decode cc pc = .ok (.getfield ix, 3)) (kk : wk X a s nL (pc + 3) lv (.ref (adr X.G a 0 6) :: st) ce sl) : wk X a s nL pc lv (.ref (adr X.G a 0 0) :: st) ce sl := k_get hC inX11 (ci := 11) rfl (fx_in f0_0) rfl (slot := 2) (by decide) hw rfl hd kk
theorem gf_X11_3 {X : Kx} {cc : ByteArray} {nL : Nat} {own : String} {a : Ax} {s : Sx} {lv : List (Nat × Value)} {st : List Value} {ce sl pc ix : Nat} (hC : Cx X cc nL own)  (hw : Cond.fieldLink own ix "CampYears" "postCount" "I" ∈ gw) (hd : decode cc pc = .ok (.getfield ix, 3)) (kk : wk X a s nL (pc + 3) lv (.int (s.1 0 0 3) :: st) ce sl) : wk X a s nL pc lv (.ref (adr X.G a 0 0) :: st) ce sl := k_get hC inX11 (ci := 11) rfl (fx_in f0_0) rfl (slot := 3) (by decide) hw rfl hd kk
theorem pf_X11_3 {X : Kx} {cc : ByteArray} {nL : Nat} {own : String} {a : Ax} {s : Sx} {lv : List (Nat × Value)} {st : List Value} {ce sl pc ix : Nat} (hC : Cx X cc nL own)  {v : Int32} (hw : Cond.fieldLink own ix "CampYears" "postCount" "I" ∈ gw) (hd : decode cc pc = .ok (.putfield ix, 3)) (kk : ∀ s1, s1 = setI s 0 0 3 v → wk X a s1 nL (pc + 3) lv st ce sl) : wk X a s nL pc lv (.int v :: .ref (adr X.G a 0 0) :: st) ce sl := k_put hC inX11 (ty0 := tyX11) tyX11_ok nmX11 (ci := 11) rfl (fx_in f0_0) rfl rfl (slot := 3) (by decide) hw rfl (by decide +kernel) (Nat.le_of_ble_eq_true rfl) hd (kk _ rfl)
theorem gf_X11_4 {X : Kx} {cc : ByteArray} {nL : Nat} {own : String} {a : Ax} {s : Sx} {lv : List (Nat × Value)} {st : List Value} {ce sl pc ix : Nat} (hC : Cx X cc nL own)  (hw : Cond.fieldLink own ix "CampYears" "traced" "I" ∈ gw) (hd : decode cc pc = .ok (.getfield ix, 3)) (kk : wk X a s nL (pc + 3) lv (.int (s.1 0 0 4) :: st) ce sl) : wk X a s nL pc lv (.ref (adr X.G a 0 0) :: st) ce sl := k_get hC inX11 (ci := 11) rfl (fx_in f0_0) rfl (slot := 4) (by decide) hw rfl hd kk
theorem pf_X11_4 {X : Kx} {cc : ByteArray} {nL : Nat} {own : String} {a : Ax} {s : Sx} {lv : List (Nat × Value)} {st : List Value} {ce sl pc ix : Nat} (hC : Cx X cc nL own)  {v : Int32} (hw : Cond.fieldLink own ix "CampYears" "traced" "I" ∈ gw) (hd : decode cc pc = .ok (.putfield ix, 3)) (kk : ∀ s1, s1 = setI s 0 0 4 v → wk X a s1 nL (pc + 3) lv st ce sl) : wk X a s nL pc lv (.int v :: .ref (adr X.G a 0 0) :: st) ce sl := k_put hC inX11 (ty0 := tyX11) tyX11_ok nmX11 (ci := 11) rfl (fx_in f0_0) rfl rfl (slot := 4) (by decide) hw rfl (by decide +kernel) (Nat.le_of_ble_eq_true rfl) hd (kk _ rfl)
theorem gf_X11_5 {X : Kx} {cc : ByteArray} {nL : Nat} {own : String} {a : Ax} {s : Sx} {lv : List (Nat × Value)} {st : List Value} {ce sl pc ix : Nat} (hC : Cx X cc nL own)  (hw : Cond.fieldLink own ix "CampYears" "delays" "[I" ∈ gw) (hd : decode cc pc = .ok (.getfield ix, 3)) (kk : wk X a s nL (pc + 3) lv (.ref (adr X.G a 0 7) :: st) ce sl) : wk X a s nL pc lv (.ref (adr X.G a 0 0) :: st) ce sl := k_get hC inX11 (ci := 11) rfl (fx_in f0_0) rfl (slot := 5) (by decide) hw rfl hd kk
theorem gf_X11_6 {X : Kx} {cc : ByteArray} {nL : Nat} {own : String} {a : Ax} {s : Sx} {lv : List (Nat × Value)} {st : List Value} {ce sl pc ix : Nat} (hC : Cx X cc nL own)  (hw : Cond.fieldLink own ix "CampYears" "orders" "[LCampYears$Order;" ∈ gw) (hd : decode cc pc = .ok (.getfield ix, 3)) (kk : wk X a s nL (pc + 3) lv (.ref (adr X.G a 0 8) :: st) ce sl) : wk X a s nL pc lv (.ref (adr X.G a 0 0) :: st) ce sl := k_get hC inX11 (ci := 11) rfl (fx_in f0_0) rfl (slot := 6) (by decide) hw rfl hd kk
theorem gf_X11_7 {X : Kx} {cc : ByteArray} {nL : Nat} {own : String} {a : Ax} {s : Sx} {lv : List (Nat × Value)} {st : List Value} {ce sl pc ix : Nat} (hC : Cx X cc nL own)  (hw : Cond.fieldLink own ix "CampYears" "orderCount" "I" ∈ gw) (hd : decode cc pc = .ok (.getfield ix, 3)) (kk : wk X a s nL (pc + 3) lv (.int (s.1 0 0 7) :: st) ce sl) : wk X a s nL pc lv (.ref (adr X.G a 0 0) :: st) ce sl := k_get hC inX11 (ci := 11) rfl (fx_in f0_0) rfl (slot := 7) (by decide) hw rfl hd kk
theorem pf_X11_7 {X : Kx} {cc : ByteArray} {nL : Nat} {own : String} {a : Ax} {s : Sx} {lv : List (Nat × Value)} {st : List Value} {ce sl pc ix : Nat} (hC : Cx X cc nL own)  {v : Int32} (hw : Cond.fieldLink own ix "CampYears" "orderCount" "I" ∈ gw) (hd : decode cc pc = .ok (.putfield ix, 3)) (kk : ∀ s1, s1 = setI s 0 0 7 v → wk X a s1 nL (pc + 3) lv st ce sl) : wk X a s nL pc lv (.int v :: .ref (adr X.G a 0 0) :: st) ce sl := k_put hC inX11 (ty0 := tyX11) tyX11_ok nmX11 (ci := 11) rfl (fx_in f0_0) rfl rfl (slot := 7) (by decide) hw rfl (by decide +kernel) (Nat.le_of_ble_eq_true rfl) hd (kk _ rfl)
theorem gf_X11_8 {X : Kx} {cc : ByteArray} {nL : Nat} {own : String} {a : Ax} {s : Sx} {lv : List (Nat × Value)} {st : List Value} {ce sl pc ix : Nat} (hC : Cx X cc nL own)  (hw : Cond.fieldLink own ix "CampYears" "payroll" "LCampYears$Payroll;" ∈ gw) (hd : decode cc pc = .ok (.getfield ix, 3)) (kk : wk X a s nL (pc + 3) lv (.ref (adr X.G a 0 9) :: st) ce sl) : wk X a s nL pc lv (.ref (adr X.G a 0 0) :: st) ce sl := k_get hC inX11 (ci := 11) rfl (fx_in f0_0) rfl (slot := 8) (by decide) hw rfl hd kk
theorem gf_X11_9 {X : Kx} {cc : ByteArray} {nL : Nat} {own : String} {a : Ax} {s : Sx} {lv : List (Nat × Value)} {st : List Value} {ce sl pc ix : Nat} (hC : Cx X cc nL own)  (hw : Cond.fieldLink own ix "CampYears" "works" "LCampYears$Works;" ∈ gw) (hd : decode cc pc = .ok (.getfield ix, 3)) (kk : wk X a s nL (pc + 3) lv (.ref (adr X.G a 0 14) :: st) ce sl) : wk X a s nL pc lv (.ref (adr X.G a 0 0) :: st) ce sl := k_get hC inX11 (ci := 11) rfl (fx_in f0_0) rfl (slot := 9) (by decide) hw rfl hd kk
theorem gf_X11_10 {X : Kx} {cc : ByteArray} {nL : Nat} {own : String} {a : Ax} {s : Sx} {lv : List (Nat × Value)} {st : List Value} {ce sl pc ix : Nat} (hC : Cx X cc nL own)  (hw : Cond.fieldLink own ix "CampYears" "trees" "LCampYears$Trees;" ∈ gw) (hd : decode cc pc = .ok (.getfield ix, 3)) (kk : wk X a s nL (pc + 3) lv (.ref (adr X.G a 0 19) :: st) ce sl) : wk X a s nL pc lv (.ref (adr X.G a 0 0) :: st) ce sl := k_get hC inX11 (ci := 11) rfl (fx_in f0_0) rfl (slot := 10) (by decide) hw rfl hd kk
theorem gf_X11_11 {X : Kx} {cc : ByteArray} {nL : Nat} {own : String} {a : Ax} {s : Sx} {lv : List (Nat × Value)} {st : List Value} {ce sl pc ix : Nat} (hC : Cx X cc nL own)  (hw : Cond.fieldLink own ix "CampYears" "fires" "LCampYears$Fires;" ∈ gw) (hd : decode cc pc = .ok (.getfield ix, 3)) (kk : wk X a s nL (pc + 3) lv (.ref (adr X.G a 0 25) :: st) ce sl) : wk X a s nL pc lv (.ref (adr X.G a 0 0) :: st) ce sl := k_get hC inX11 (ci := 11) rfl (fx_in f0_0) rfl (slot := 11) (by decide) hw rfl hd kk
theorem gf_X11_12 {X : Kx} {cc : ByteArray} {nL : Nat} {own : String} {a : Ax} {s : Sx} {lv : List (Nat × Value)} {st : List Value} {ce sl pc ix : Nat} (hC : Cx X cc nL own)  (hw : Cond.fieldLink own ix "CampYears" "places" "LCampYears$Places;" ∈ gw) (hd : decode cc pc = .ok (.getfield ix, 3)) (kk : wk X a s nL (pc + 3) lv (.ref (adr X.G a 0 34) :: st) ce sl) : wk X a s nL pc lv (.ref (adr X.G a 0 0) :: st) ce sl := k_get hC inX11 (ci := 11) rfl (fx_in f0_0) rfl (slot := 12) (by decide) hw rfl hd kk
theorem gf_X11_13 {X : Kx} {cc : ByteArray} {nL : Nat} {own : String} {a : Ax} {s : Sx} {lv : List (Nat × Value)} {st : List Value} {ce sl pc ix : Nat} (hC : Cx X cc nL own)  (hw : Cond.fieldLink own ix "CampYears" "sheets" "[LCampYears$Sheet;" ∈ gw) (hd : decode cc pc = .ok (.getfield ix, 3)) (kk : wk X a s nL (pc + 3) lv (.ref (adr X.G a 0 41) :: st) ce sl) : wk X a s nL pc lv (.ref (adr X.G a 0 0) :: st) ce sl := k_get hC inX11 (ci := 11) rfl (fx_in f0_0) rfl (slot := 13) (by decide) hw rfl hd kk
theorem gf_X11_14 {X : Kx} {cc : ByteArray} {nL : Nat} {own : String} {a : Ax} {s : Sx} {lv : List (Nat × Value)} {st : List Value} {ce sl pc ix : Nat} (hC : Cx X cc nL own)  (hw : Cond.fieldLink own ix "CampYears" "latestFault" "I" ∈ gw) (hd : decode cc pc = .ok (.getfield ix, 3)) (kk : wk X a s nL (pc + 3) lv (.int (s.1 0 0 14) :: st) ce sl) : wk X a s nL pc lv (.ref (adr X.G a 0 0) :: st) ce sl := k_get hC inX11 (ci := 11) rfl (fx_in f0_0) rfl (slot := 14) (by decide) hw rfl hd kk
theorem pf_X11_14 {X : Kx} {cc : ByteArray} {nL : Nat} {own : String} {a : Ax} {s : Sx} {lv : List (Nat × Value)} {st : List Value} {ce sl pc ix : Nat} (hC : Cx X cc nL own)  {v : Int32} (hw : Cond.fieldLink own ix "CampYears" "latestFault" "I" ∈ gw) (hd : decode cc pc = .ok (.putfield ix, 3)) (kk : ∀ s1, s1 = setI s 0 0 14 v → wk X a s1 nL (pc + 3) lv st ce sl) : wk X a s nL pc lv (.int v :: .ref (adr X.G a 0 0) :: st) ce sl := k_put hC inX11 (ty0 := tyX11) tyX11_ok nmX11 (ci := 11) rfl (fx_in f0_0) rfl rfl (slot := 14) (by decide) hw rfl (by decide +kernel) (Nat.le_of_ble_eq_true rfl) hd (kk _ rfl)
theorem gf_X12_0 {X : Kx} {cc : ByteArray} {nL : Nat} {own : String} {a : Ax} {s : Sx} {lv : List (Nat × Value)} {st : List Value} {ce sl pc ix : Nat} (hC : Cx X cc nL own)  (hw : Cond.fieldLink own ix "CampYearsModel" "fault" "I" ∈ gw) (hd : decode cc pc = .ok (.getfield ix, 3)) (kk : wk X a s nL (pc + 3) lv (.int (s.1 6 0 0) :: st) ce sl) : wk X a s nL pc lv (.ref (adr X.G a 6 0) :: st) ce sl := k_get hC inX12 (ci := 12) rfl (fx_in f6_0) rfl (slot := 0) (by decide) hw rfl hd kk
theorem pf_X12_0 {X : Kx} {cc : ByteArray} {nL : Nat} {own : String} {a : Ax} {s : Sx} {lv : List (Nat × Value)} {st : List Value} {ce sl pc ix : Nat} (hC : Cx X cc nL own)  {v : Int32} (hw : Cond.fieldLink own ix "CampYearsModel" "fault" "I" ∈ gw) (hd : decode cc pc = .ok (.putfield ix, 3)) (kk : ∀ s1, s1 = setI s 6 0 0 v → wk X a s1 nL (pc + 3) lv st ce sl) : wk X a s nL pc lv (.int v :: .ref (adr X.G a 6 0) :: st) ce sl := k_put hC inX12 (ty0 := tyX12) tyX12_ok nmX12 (ci := 12) rfl (fx_in f6_0) rfl rfl (slot := 0) (by decide) hw rfl (by decide +kernel) (Nat.le_of_ble_eq_true rfl) hd (kk _ rfl)
theorem gf_X12_1 {X : Kx} {cc : ByteArray} {nL : Nat} {own : String} {a : Ax} {s : Sx} {lv : List (Nat × Value)} {st : List Value} {ce sl pc ix : Nat} (hC : Cx X cc nL own)  (hw : Cond.fieldLink own ix "CampYearsModel" "trace" "I" ∈ gw) (hd : decode cc pc = .ok (.getfield ix, 3)) (kk : wk X a s nL (pc + 3) lv (.int (s.1 6 0 1) :: st) ce sl) : wk X a s nL pc lv (.ref (adr X.G a 6 0) :: st) ce sl := k_get hC inX12 (ci := 12) rfl (fx_in f6_0) rfl (slot := 1) (by decide) hw rfl hd kk
theorem pf_X12_1 {X : Kx} {cc : ByteArray} {nL : Nat} {own : String} {a : Ax} {s : Sx} {lv : List (Nat × Value)} {st : List Value} {ce sl pc ix : Nat} (hC : Cx X cc nL own)  {v : Int32} (hw : Cond.fieldLink own ix "CampYearsModel" "trace" "I" ∈ gw) (hd : decode cc pc = .ok (.putfield ix, 3)) (kk : ∀ s1, s1 = setI s 6 0 1 v → wk X a s1 nL (pc + 3) lv st ce sl) : wk X a s nL pc lv (.int v :: .ref (adr X.G a 6 0) :: st) ce sl := k_put hC inX12 (ty0 := tyX12) tyX12_ok nmX12 (ci := 12) rfl (fx_in f6_0) rfl rfl (slot := 1) (by decide) hw rfl (by decide +kernel) (Nat.le_of_ble_eq_true rfl) hd (kk _ rfl)
theorem gf_X12_2 {X : Kx} {cc : ByteArray} {nL : Nat} {own : String} {a : Ax} {s : Sx} {lv : List (Nat × Value)} {st : List Value} {ce sl pc ix : Nat} (hC : Cx X cc nL own)  (hw : Cond.fieldLink own ix "CampYearsModel" "lanes" "[I" ∈ gw) (hd : decode cc pc = .ok (.getfield ix, 3)) (kk : wk X a s nL (pc + 3) lv (.ref (adr X.G a 5 2) :: st) ce sl) : wk X a s nL pc lv (.ref (adr X.G a 6 0) :: st) ce sl := k_get hC inX12 (ci := 12) rfl (fx_in f6_0) rfl (slot := 2) (by decide) hw rfl hd kk
theorem gf_X12_3 {X : Kx} {cc : ByteArray} {nL : Nat} {own : String} {a : Ax} {s : Sx} {lv : List (Nat × Value)} {st : List Value} {ce sl pc ix : Nat} (hC : Cx X cc nL own)  (hw : Cond.fieldLink own ix "CampYearsModel" "sheetLong" "[I" ∈ gw) (hd : decode cc pc = .ok (.getfield ix, 3)) (kk : wk X a s nL (pc + 3) lv (.ref (adr X.G a 5 3) :: st) ce sl) : wk X a s nL pc lv (.ref (adr X.G a 6 0) :: st) ce sl := k_get hC inX12 (ci := 12) rfl (fx_in f6_0) rfl (slot := 3) (by decide) hw rfl hd kk
theorem gf_X12_4 {X : Kx} {cc : ByteArray} {nL : Nat} {own : String} {a : Ax} {s : Sx} {lv : List (Nat × Value)} {st : List Value} {ce sl pc ix : Nat} (hC : Cx X cc nL own)  (hw : Cond.fieldLink own ix "CampYearsModel" "cells" "[I" ∈ gw) (hd : decode cc pc = .ok (.getfield ix, 3)) (kk : wk X a s nL (pc + 3) lv (.ref (adr X.G a 5 4) :: st) ce sl) : wk X a s nL pc lv (.ref (adr X.G a 6 0) :: st) ce sl := k_get hC inX12 (ci := 12) rfl (fx_in f6_0) rfl (slot := 4) (by decide) hw rfl hd kk
theorem gf_X12_5 {X : Kx} {cc : ByteArray} {nL : Nat} {own : String} {a : Ax} {s : Sx} {lv : List (Nat × Value)} {st : List Value} {ce sl pc ix : Nat} (hC : Cx X cc nL own)  (hw : Cond.fieldLink own ix "CampYearsModel" "camps" "I" ∈ gw) (hd : decode cc pc = .ok (.getfield ix, 3)) (kk : wk X a s nL (pc + 3) lv (.int (s.1 6 0 5) :: st) ce sl) : wk X a s nL pc lv (.ref (adr X.G a 6 0) :: st) ce sl := k_get hC inX12 (ci := 12) rfl (fx_in f6_0) rfl (slot := 5) (by decide) hw rfl hd kk
theorem pf_X12_5 {X : Kx} {cc : ByteArray} {nL : Nat} {own : String} {a : Ax} {s : Sx} {lv : List (Nat × Value)} {st : List Value} {ce sl pc ix : Nat} (hC : Cx X cc nL own)  {v : Int32} (hw : Cond.fieldLink own ix "CampYearsModel" "camps" "I" ∈ gw) (hd : decode cc pc = .ok (.putfield ix, 3)) (kk : ∀ s1, s1 = setI s 6 0 5 v → wk X a s1 nL (pc + 3) lv st ce sl) : wk X a s nL pc lv (.int v :: .ref (adr X.G a 6 0) :: st) ce sl := k_put hC inX12 (ty0 := tyX12) tyX12_ok nmX12 (ci := 12) rfl (fx_in f6_0) rfl rfl (slot := 5) (by decide) hw rfl (by decide +kernel) (Nat.le_of_ble_eq_true rfl) hd (kk _ rfl)
theorem gf_X12_6 {X : Kx} {cc : ByteArray} {nL : Nat} {own : String} {a : Ax} {s : Sx} {lv : List (Nat × Value)} {st : List Value} {ce sl pc ix : Nat} (hC : Cx X cc nL own)  (hw : Cond.fieldLink own ix "CampYearsModel" "campX" "[I" ∈ gw) (hd : decode cc pc = .ok (.getfield ix, 3)) (kk : wk X a s nL (pc + 3) lv (.ref (adr X.G a 5 6) :: st) ce sl) : wk X a s nL pc lv (.ref (adr X.G a 6 0) :: st) ce sl := k_get hC inX12 (ci := 12) rfl (fx_in f6_0) rfl (slot := 6) (by decide) hw rfl hd kk
theorem gf_X12_7 {X : Kx} {cc : ByteArray} {nL : Nat} {own : String} {a : Ax} {s : Sx} {lv : List (Nat × Value)} {st : List Value} {ce sl pc ix : Nat} (hC : Cx X cc nL own)  (hw : Cond.fieldLink own ix "CampYearsModel" "campY" "[I" ∈ gw) (hd : decode cc pc = .ok (.getfield ix, 3)) (kk : wk X a s nL (pc + 3) lv (.ref (adr X.G a 5 7) :: st) ce sl) : wk X a s nL pc lv (.ref (adr X.G a 6 0) :: st) ce sl := k_get hC inX12 (ci := 12) rfl (fx_in f6_0) rfl (slot := 7) (by decide) hw rfl hd kk
theorem gf_X12_8 {X : Kx} {cc : ByteArray} {nL : Nat} {own : String} {a : Ax} {s : Sx} {lv : List (Nat × Value)} {st : List Value} {ce sl pc ix : Nat} (hC : Cx X cc nL own)  (hw : Cond.fieldLink own ix "CampYearsModel" "bedsOf" "[I" ∈ gw) (hd : decode cc pc = .ok (.getfield ix, 3)) (kk : wk X a s nL (pc + 3) lv (.ref (adr X.G a 5 8) :: st) ce sl) : wk X a s nL pc lv (.ref (adr X.G a 6 0) :: st) ce sl := k_get hC inX12 (ci := 12) rfl (fx_in f6_0) rfl (slot := 8) (by decide) hw rfl hd kk
theorem gf_X12_9 {X : Kx} {cc : ByteArray} {nL : Nat} {own : String} {a : Ax} {s : Sx} {lv : List (Nat × Value)} {st : List Value} {ce sl pc ix : Nat} (hC : Cx X cc nL own)  (hw : Cond.fieldLink own ix "CampYearsModel" "men" "I" ∈ gw) (hd : decode cc pc = .ok (.getfield ix, 3)) (kk : wk X a s nL (pc + 3) lv (.int (s.1 6 0 9) :: st) ce sl) : wk X a s nL pc lv (.ref (adr X.G a 6 0) :: st) ce sl := k_get hC inX12 (ci := 12) rfl (fx_in f6_0) rfl (slot := 9) (by decide) hw rfl hd kk
theorem pf_X12_9 {X : Kx} {cc : ByteArray} {nL : Nat} {own : String} {a : Ax} {s : Sx} {lv : List (Nat × Value)} {st : List Value} {ce sl pc ix : Nat} (hC : Cx X cc nL own)  {v : Int32} (hw : Cond.fieldLink own ix "CampYearsModel" "men" "I" ∈ gw) (hd : decode cc pc = .ok (.putfield ix, 3)) (kk : ∀ s1, s1 = setI s 6 0 9 v → wk X a s1 nL (pc + 3) lv st ce sl) : wk X a s nL pc lv (.int v :: .ref (adr X.G a 6 0) :: st) ce sl := k_put hC inX12 (ty0 := tyX12) tyX12_ok nmX12 (ci := 12) rfl (fx_in f6_0) rfl rfl (slot := 9) (by decide) hw rfl (by decide +kernel) (Nat.le_of_ble_eq_true rfl) hd (kk _ rfl)
theorem gf_X12_10 {X : Kx} {cc : ByteArray} {nL : Nat} {own : String} {a : Ax} {s : Sx} {lv : List (Nat × Value)} {st : List Value} {ce sl pc ix : Nat} (hC : Cx X cc nL own)  (hw : Cond.fieldLink own ix "CampYearsModel" "posts" "I" ∈ gw) (hd : decode cc pc = .ok (.getfield ix, 3)) (kk : wk X a s nL (pc + 3) lv (.int (s.1 6 0 10) :: st) ce sl) : wk X a s nL pc lv (.ref (adr X.G a 6 0) :: st) ce sl := k_get hC inX12 (ci := 12) rfl (fx_in f6_0) rfl (slot := 10) (by decide) hw rfl hd kk
theorem pf_X12_10 {X : Kx} {cc : ByteArray} {nL : Nat} {own : String} {a : Ax} {s : Sx} {lv : List (Nat × Value)} {st : List Value} {ce sl pc ix : Nat} (hC : Cx X cc nL own)  {v : Int32} (hw : Cond.fieldLink own ix "CampYearsModel" "posts" "I" ∈ gw) (hd : decode cc pc = .ok (.putfield ix, 3)) (kk : ∀ s1, s1 = setI s 6 0 10 v → wk X a s1 nL (pc + 3) lv st ce sl) : wk X a s nL pc lv (.int v :: .ref (adr X.G a 6 0) :: st) ce sl := k_put hC inX12 (ty0 := tyX12) tyX12_ok nmX12 (ci := 12) rfl (fx_in f6_0) rfl rfl (slot := 10) (by decide) hw rfl (by decide +kernel) (Nat.le_of_ble_eq_true rfl) hd (kk _ rfl)
theorem gf_X12_11 {X : Kx} {cc : ByteArray} {nL : Nat} {own : String} {a : Ax} {s : Sx} {lv : List (Nat × Value)} {st : List Value} {ce sl pc ix : Nat} (hC : Cx X cc nL own)  (hw : Cond.fieldLink own ix "CampYearsModel" "postKind" "[I" ∈ gw) (hd : decode cc pc = .ok (.getfield ix, 3)) (kk : wk X a s nL (pc + 3) lv (.ref (adr X.G a 5 11) :: st) ce sl) : wk X a s nL pc lv (.ref (adr X.G a 6 0) :: st) ce sl := k_get hC inX12 (ci := 12) rfl (fx_in f6_0) rfl (slot := 11) (by decide) hw rfl hd kk
theorem gf_X12_12 {X : Kx} {cc : ByteArray} {nL : Nat} {own : String} {a : Ax} {s : Sx} {lv : List (Nat × Value)} {st : List Value} {ce sl pc ix : Nat} (hC : Cx X cc nL own)  (hw : Cond.fieldLink own ix "CampYearsModel" "postMan" "[I" ∈ gw) (hd : decode cc pc = .ok (.getfield ix, 3)) (kk : wk X a s nL (pc + 3) lv (.ref (adr X.G a 5 12) :: st) ce sl) : wk X a s nL pc lv (.ref (adr X.G a 6 0) :: st) ce sl := k_get hC inX12 (ci := 12) rfl (fx_in f6_0) rfl (slot := 12) (by decide) hw rfl hd kk
theorem gf_X12_13 {X : Kx} {cc : ByteArray} {nL : Nat} {own : String} {a : Ax} {s : Sx} {lv : List (Nat × Value)} {st : List Value} {ce sl pc ix : Nat} (hC : Cx X cc nL own)  (hw : Cond.fieldLink own ix "CampYearsModel" "postCamp" "[I" ∈ gw) (hd : decode cc pc = .ok (.getfield ix, 3)) (kk : wk X a s nL (pc + 3) lv (.ref (adr X.G a 5 13) :: st) ce sl) : wk X a s nL pc lv (.ref (adr X.G a 6 0) :: st) ce sl := k_get hC inX12 (ci := 12) rfl (fx_in f6_0) rfl (slot := 13) (by decide) hw rfl hd kk
theorem gf_X12_14 {X : Kx} {cc : ByteArray} {nL : Nat} {own : String} {a : Ax} {s : Sx} {lv : List (Nat × Value)} {st : List Value} {ce sl pc ix : Nat} (hC : Cx X cc nL own)  (hw : Cond.fieldLink own ix "CampYearsModel" "postFrom" "[I" ∈ gw) (hd : decode cc pc = .ok (.getfield ix, 3)) (kk : wk X a s nL (pc + 3) lv (.ref (adr X.G a 5 14) :: st) ce sl) : wk X a s nL pc lv (.ref (adr X.G a 6 0) :: st) ce sl := k_get hC inX12 (ci := 12) rfl (fx_in f6_0) rfl (slot := 14) (by decide) hw rfl hd kk
theorem gf_X12_15 {X : Kx} {cc : ByteArray} {nL : Nat} {own : String} {a : Ax} {s : Sx} {lv : List (Nat × Value)} {st : List Value} {ce sl pc ix : Nat} (hC : Cx X cc nL own)  (hw : Cond.fieldLink own ix "CampYearsModel" "postTill" "[I" ∈ gw) (hd : decode cc pc = .ok (.getfield ix, 3)) (kk : wk X a s nL (pc + 3) lv (.ref (adr X.G a 5 15) :: st) ce sl) : wk X a s nL pc lv (.ref (adr X.G a 6 0) :: st) ce sl := k_get hC inX12 (ci := 12) rfl (fx_in f6_0) rfl (slot := 15) (by decide) hw rfl hd kk
theorem gf_X12_16 {X : Kx} {cc : ByteArray} {nL : Nat} {own : String} {a : Ax} {s : Sx} {lv : List (Nat × Value)} {st : List Value} {ce sl pc ix : Nat} (hC : Cx X cc nL own)  (hw : Cond.fieldLink own ix "CampYearsModel" "orders" "I" ∈ gw) (hd : decode cc pc = .ok (.getfield ix, 3)) (kk : wk X a s nL (pc + 3) lv (.int (s.1 6 0 16) :: st) ce sl) : wk X a s nL pc lv (.ref (adr X.G a 6 0) :: st) ce sl := k_get hC inX12 (ci := 12) rfl (fx_in f6_0) rfl (slot := 16) (by decide) hw rfl hd kk
theorem pf_X12_16 {X : Kx} {cc : ByteArray} {nL : Nat} {own : String} {a : Ax} {s : Sx} {lv : List (Nat × Value)} {st : List Value} {ce sl pc ix : Nat} (hC : Cx X cc nL own)  {v : Int32} (hw : Cond.fieldLink own ix "CampYearsModel" "orders" "I" ∈ gw) (hd : decode cc pc = .ok (.putfield ix, 3)) (kk : ∀ s1, s1 = setI s 6 0 16 v → wk X a s1 nL (pc + 3) lv st ce sl) : wk X a s nL pc lv (.int v :: .ref (adr X.G a 6 0) :: st) ce sl := k_put hC inX12 (ty0 := tyX12) tyX12_ok nmX12 (ci := 12) rfl (fx_in f6_0) rfl rfl (slot := 16) (by decide) hw rfl (by decide +kernel) (Nat.le_of_ble_eq_true rfl) hd (kk _ rfl)
theorem gf_X12_17 {X : Kx} {cc : ByteArray} {nL : Nat} {own : String} {a : Ax} {s : Sx} {lv : List (Nat × Value)} {st : List Value} {ce sl pc ix : Nat} (hC : Cx X cc nL own)  (hw : Cond.fieldLink own ix "CampYearsModel" "orderOffice" "[I" ∈ gw) (hd : decode cc pc = .ok (.getfield ix, 3)) (kk : wk X a s nL (pc + 3) lv (.ref (adr X.G a 5 17) :: st) ce sl) : wk X a s nL pc lv (.ref (adr X.G a 6 0) :: st) ce sl := k_get hC inX12 (ci := 12) rfl (fx_in f6_0) rfl (slot := 17) (by decide) hw rfl hd kk
theorem gf_X12_18 {X : Kx} {cc : ByteArray} {nL : Nat} {own : String} {a : Ax} {s : Sx} {lv : List (Nat × Value)} {st : List Value} {ce sl pc ix : Nat} (hC : Cx X cc nL own)  (hw : Cond.fieldLink own ix "CampYearsModel" "hourFrom" "[I" ∈ gw) (hd : decode cc pc = .ok (.getfield ix, 3)) (kk : wk X a s nL (pc + 3) lv (.ref (adr X.G a 5 18) :: st) ce sl) : wk X a s nL pc lv (.ref (adr X.G a 6 0) :: st) ce sl := k_get hC inX12 (ci := 12) rfl (fx_in f6_0) rfl (slot := 18) (by decide) hw rfl hd kk
theorem gf_X12_19 {X : Kx} {cc : ByteArray} {nL : Nat} {own : String} {a : Ax} {s : Sx} {lv : List (Nat × Value)} {st : List Value} {ce sl pc ix : Nat} (hC : Cx X cc nL own)  (hw : Cond.fieldLink own ix "CampYearsModel" "hourTo" "[I" ∈ gw) (hd : decode cc pc = .ok (.getfield ix, 3)) (kk : wk X a s nL (pc + 3) lv (.ref (adr X.G a 5 19) :: st) ce sl) : wk X a s nL pc lv (.ref (adr X.G a 6 0) :: st) ce sl := k_get hC inX12 (ci := 12) rfl (fx_in f6_0) rfl (slot := 19) (by decide) hw rfl hd kk
theorem gf_X12_20 {X : Kx} {cc : ByteArray} {nL : Nat} {own : String} {a : Ax} {s : Sx} {lv : List (Nat × Value)} {st : List Value} {ce sl pc ix : Nat} (hC : Cx X cc nL own)  (hw : Cond.fieldLink own ix "CampYearsModel" "dayFrom" "[I" ∈ gw) (hd : decode cc pc = .ok (.getfield ix, 3)) (kk : wk X a s nL (pc + 3) lv (.ref (adr X.G a 5 20) :: st) ce sl) : wk X a s nL pc lv (.ref (adr X.G a 6 0) :: st) ce sl := k_get hC inX12 (ci := 12) rfl (fx_in f6_0) rfl (slot := 20) (by decide) hw rfl hd kk
theorem gf_X12_21 {X : Kx} {cc : ByteArray} {nL : Nat} {own : String} {a : Ax} {s : Sx} {lv : List (Nat × Value)} {st : List Value} {ce sl pc ix : Nat} (hC : Cx X cc nL own)  (hw : Cond.fieldLink own ix "CampYearsModel" "dayTo" "[I" ∈ gw) (hd : decode cc pc = .ok (.getfield ix, 3)) (kk : wk X a s nL (pc + 3) lv (.ref (adr X.G a 5 21) :: st) ce sl) : wk X a s nL pc lv (.ref (adr X.G a 6 0) :: st) ce sl := k_get hC inX12 (ci := 12) rfl (fx_in f6_0) rfl (slot := 21) (by decide) hw rfl hd kk
theorem gf_X12_22 {X : Kx} {cc : ByteArray} {nL : Nat} {own : String} {a : Ax} {s : Sx} {lv : List (Nat × Value)} {st : List Value} {ce sl pc ix : Nat} (hC : Cx X cc nL own)  (hw : Cond.fieldLink own ix "CampYearsModel" "leftOut" "[I" ∈ gw) (hd : decode cc pc = .ok (.getfield ix, 3)) (kk : wk X a s nL (pc + 3) lv (.ref (adr X.G a 5 22) :: st) ce sl) : wk X a s nL pc lv (.ref (adr X.G a 6 0) :: st) ce sl := k_get hC inX12 (ci := 12) rfl (fx_in f6_0) rfl (slot := 22) (by decide) hw rfl hd kk
theorem gf_X12_23 {X : Kx} {cc : ByteArray} {nL : Nat} {own : String} {a : Ax} {s : Sx} {lv : List (Nat × Value)} {st : List Value} {ce sl pc ix : Nat} (hC : Cx X cc nL own)  (hw : Cond.fieldLink own ix "CampYearsModel" "given" "[I" ∈ gw) (hd : decode cc pc = .ok (.getfield ix, 3)) (kk : wk X a s nL (pc + 3) lv (.ref (adr X.G a 5 23) :: st) ce sl) : wk X a s nL pc lv (.ref (adr X.G a 6 0) :: st) ce sl := k_get hC inX12 (ci := 12) rfl (fx_in f6_0) rfl (slot := 23) (by decide) hw rfl hd kk
theorem gf_X12_24 {X : Kx} {cc : ByteArray} {nL : Nat} {own : String} {a : Ax} {s : Sx} {lv : List (Nat × Value)} {st : List Value} {ce sl pc ix : Nat} (hC : Cx X cc nL own)  (hw : Cond.fieldLink own ix "CampYearsModel" "delays" "[I" ∈ gw) (hd : decode cc pc = .ok (.getfield ix, 3)) (kk : wk X a s nL (pc + 3) lv (.ref (adr X.G a 5 24) :: st) ce sl) : wk X a s nL pc lv (.ref (adr X.G a 6 0) :: st) ce sl := k_get hC inX12 (ci := 12) rfl (fx_in f6_0) rfl (slot := 24) (by decide) hw rfl hd kk
theorem gf_X12_25 {X : Kx} {cc : ByteArray} {nL : Nat} {own : String} {a : Ax} {s : Sx} {lv : List (Nat × Value)} {st : List Value} {ce sl pc ix : Nat} (hC : Cx X cc nL own)  (hw : Cond.fieldLink own ix "CampYearsModel" "at" "I" ∈ gw) (hd : decode cc pc = .ok (.getfield ix, 3)) (kk : wk X a s nL (pc + 3) lv (.int (s.1 6 0 25) :: st) ce sl) : wk X a s nL pc lv (.ref (adr X.G a 6 0) :: st) ce sl := k_get hC inX12 (ci := 12) rfl (fx_in f6_0) rfl (slot := 25) (by decide) hw rfl hd kk
theorem pf_X12_25 {X : Kx} {cc : ByteArray} {nL : Nat} {own : String} {a : Ax} {s : Sx} {lv : List (Nat × Value)} {st : List Value} {ce sl pc ix : Nat} (hC : Cx X cc nL own)  {v : Int32} (hw : Cond.fieldLink own ix "CampYearsModel" "at" "I" ∈ gw) (hd : decode cc pc = .ok (.putfield ix, 3)) (kk : ∀ s1, s1 = setI s 6 0 25 v → wk X a s1 nL (pc + 3) lv st ce sl) : wk X a s nL pc lv (.int v :: .ref (adr X.G a 6 0) :: st) ce sl := k_put hC inX12 (ty0 := tyX12) tyX12_ok nmX12 (ci := 12) rfl (fx_in f6_0) rfl rfl (slot := 25) (by decide) hw rfl (by decide +kernel) (Nat.le_of_ble_eq_true rfl) hd (kk _ rfl)
theorem gf_X12_26 {X : Kx} {cc : ByteArray} {nL : Nat} {own : String} {a : Ax} {s : Sx} {lv : List (Nat × Value)} {st : List Value} {ce sl pc ix : Nat} (hC : Cx X cc nL own)  (hw : Cond.fieldLink own ix "CampYearsModel" "end" "I" ∈ gw) (hd : decode cc pc = .ok (.getfield ix, 3)) (kk : wk X a s nL (pc + 3) lv (.int (s.1 6 0 26) :: st) ce sl) : wk X a s nL pc lv (.ref (adr X.G a 6 0) :: st) ce sl := k_get hC inX12 (ci := 12) rfl (fx_in f6_0) rfl (slot := 26) (by decide) hw rfl hd kk
theorem pf_X12_26 {X : Kx} {cc : ByteArray} {nL : Nat} {own : String} {a : Ax} {s : Sx} {lv : List (Nat × Value)} {st : List Value} {ce sl pc ix : Nat} (hC : Cx X cc nL own)  {v : Int32} (hw : Cond.fieldLink own ix "CampYearsModel" "end" "I" ∈ gw) (hd : decode cc pc = .ok (.putfield ix, 3)) (kk : ∀ s1, s1 = setI s 6 0 26 v → wk X a s1 nL (pc + 3) lv st ce sl) : wk X a s nL pc lv (.int v :: .ref (adr X.G a 6 0) :: st) ce sl := k_put hC inX12 (ty0 := tyX12) tyX12_ok nmX12 (ci := 12) rfl (fx_in f6_0) rfl rfl (slot := 26) (by decide) hw rfl (by decide +kernel) (Nat.le_of_ble_eq_true rfl) hd (kk _ rfl)
theorem gf_X12_27 {X : Kx} {cc : ByteArray} {nL : Nat} {own : String} {a : Ax} {s : Sx} {lv : List (Nat × Value)} {st : List Value} {ce sl pc ix : Nat} (hC : Cx X cc nL own)  (hw : Cond.fieldLink own ix "CampYearsModel" "wrongAt" "I" ∈ gw) (hd : decode cc pc = .ok (.getfield ix, 3)) (kk : wk X a s nL (pc + 3) lv (.int (s.1 6 0 27) :: st) ce sl) : wk X a s nL pc lv (.ref (adr X.G a 6 0) :: st) ce sl := k_get hC inX12 (ci := 12) rfl (fx_in f6_0) rfl (slot := 27) (by decide) hw rfl hd kk
theorem pf_X12_27 {X : Kx} {cc : ByteArray} {nL : Nat} {own : String} {a : Ax} {s : Sx} {lv : List (Nat × Value)} {st : List Value} {ce sl pc ix : Nat} (hC : Cx X cc nL own)  {v : Int32} (hw : Cond.fieldLink own ix "CampYearsModel" "wrongAt" "I" ∈ gw) (hd : decode cc pc = .ok (.putfield ix, 3)) (kk : ∀ s1, s1 = setI s 6 0 27 v → wk X a s1 nL (pc + 3) lv st ce sl) : wk X a s nL pc lv (.int v :: .ref (adr X.G a 6 0) :: st) ce sl := k_put hC inX12 (ty0 := tyX12) tyX12_ok nmX12 (ci := 12) rfl (fx_in f6_0) rfl rfl (slot := 27) (by decide) hw rfl (by decide +kernel) (Nat.le_of_ble_eq_true rfl) hd (kk _ rfl)
theorem gf_X12_28 {X : Kx} {cc : ByteArray} {nL : Nat} {own : String} {a : Ax} {s : Sx} {lv : List (Nat × Value)} {st : List Value} {ce sl pc ix : Nat} (hC : Cx X cc nL own)  (hw : Cond.fieldLink own ix "CampYearsModel" "rates" "[I" ∈ gw) (hd : decode cc pc = .ok (.getfield ix, 3)) (kk : wk X a s nL (pc + 3) lv (.ref (adr X.G a 5 28) :: st) ce sl) : wk X a s nL pc lv (.ref (adr X.G a 6 0) :: st) ce sl := k_get hC inX12 (ci := 12) rfl (fx_in f6_0) rfl (slot := 28) (by decide) hw rfl hd kk
theorem gf_X12_29 {X : Kx} {cc : ByteArray} {nL : Nat} {own : String} {a : Ax} {s : Sx} {lv : List (Nat × Value)} {st : List Value} {ce sl pc ix : Nat} (hC : Cx X cc nL own)  (hw : Cond.fieldLink own ix "CampYearsModel" "homeA" "I" ∈ gw) (hd : decode cc pc = .ok (.getfield ix, 3)) (kk : wk X a s nL (pc + 3) lv (.int (s.1 6 0 29) :: st) ce sl) : wk X a s nL pc lv (.ref (adr X.G a 6 0) :: st) ce sl := k_get hC inX12 (ci := 12) rfl (fx_in f6_0) rfl (slot := 29) (by decide) hw rfl hd kk
theorem pf_X12_29 {X : Kx} {cc : ByteArray} {nL : Nat} {own : String} {a : Ax} {s : Sx} {lv : List (Nat × Value)} {st : List Value} {ce sl pc ix : Nat} (hC : Cx X cc nL own)  {v : Int32} (hw : Cond.fieldLink own ix "CampYearsModel" "homeA" "I" ∈ gw) (hd : decode cc pc = .ok (.putfield ix, 3)) (kk : ∀ s1, s1 = setI s 6 0 29 v → wk X a s1 nL (pc + 3) lv st ce sl) : wk X a s nL pc lv (.int v :: .ref (adr X.G a 6 0) :: st) ce sl := k_put hC inX12 (ty0 := tyX12) tyX12_ok nmX12 (ci := 12) rfl (fx_in f6_0) rfl rfl (slot := 29) (by decide) hw rfl (by decide +kernel) (Nat.le_of_ble_eq_true rfl) hd (kk _ rfl)
theorem gf_X12_30 {X : Kx} {cc : ByteArray} {nL : Nat} {own : String} {a : Ax} {s : Sx} {lv : List (Nat × Value)} {st : List Value} {ce sl pc ix : Nat} (hC : Cx X cc nL own)  (hw : Cond.fieldLink own ix "CampYearsModel" "homeB" "I" ∈ gw) (hd : decode cc pc = .ok (.getfield ix, 3)) (kk : wk X a s nL (pc + 3) lv (.int (s.1 6 0 30) :: st) ce sl) : wk X a s nL pc lv (.ref (adr X.G a 6 0) :: st) ce sl := k_get hC inX12 (ci := 12) rfl (fx_in f6_0) rfl (slot := 30) (by decide) hw rfl hd kk
theorem pf_X12_30 {X : Kx} {cc : ByteArray} {nL : Nat} {own : String} {a : Ax} {s : Sx} {lv : List (Nat × Value)} {st : List Value} {ce sl pc ix : Nat} (hC : Cx X cc nL own)  {v : Int32} (hw : Cond.fieldLink own ix "CampYearsModel" "homeB" "I" ∈ gw) (hd : decode cc pc = .ok (.putfield ix, 3)) (kk : ∀ s1, s1 = setI s 6 0 30 v → wk X a s1 nL (pc + 3) lv st ce sl) : wk X a s nL pc lv (.int v :: .ref (adr X.G a 6 0) :: st) ce sl := k_put hC inX12 (ty0 := tyX12) tyX12_ok nmX12 (ci := 12) rfl (fx_in f6_0) rfl rfl (slot := 30) (by decide) hw rfl (by decide +kernel) (Nat.le_of_ble_eq_true rfl) hd (kk _ rfl)
theorem gf_X12_31 {X : Kx} {cc : ByteArray} {nL : Nat} {own : String} {a : Ax} {s : Sx} {lv : List (Nat × Value)} {st : List Value} {ce sl pc ix : Nat} (hC : Cx X cc nL own)  (hw : Cond.fieldLink own ix "CampYearsModel" "fines" "I" ∈ gw) (hd : decode cc pc = .ok (.getfield ix, 3)) (kk : wk X a s nL (pc + 3) lv (.int (s.1 6 0 31) :: st) ce sl) : wk X a s nL pc lv (.ref (adr X.G a 6 0) :: st) ce sl := k_get hC inX12 (ci := 12) rfl (fx_in f6_0) rfl (slot := 31) (by decide) hw rfl hd kk
theorem pf_X12_31 {X : Kx} {cc : ByteArray} {nL : Nat} {own : String} {a : Ax} {s : Sx} {lv : List (Nat × Value)} {st : List Value} {ce sl pc ix : Nat} (hC : Cx X cc nL own)  {v : Int32} (hw : Cond.fieldLink own ix "CampYearsModel" "fines" "I" ∈ gw) (hd : decode cc pc = .ok (.putfield ix, 3)) (kk : ∀ s1, s1 = setI s 6 0 31 v → wk X a s1 nL (pc + 3) lv st ce sl) : wk X a s nL pc lv (.int v :: .ref (adr X.G a 6 0) :: st) ce sl := k_put hC inX12 (ty0 := tyX12) tyX12_ok nmX12 (ci := 12) rfl (fx_in f6_0) rfl rfl (slot := 31) (by decide) hw rfl (by decide +kernel) (Nat.le_of_ble_eq_true rfl) hd (kk _ rfl)
theorem gf_X12_32 {X : Kx} {cc : ByteArray} {nL : Nat} {own : String} {a : Ax} {s : Sx} {lv : List (Nat × Value)} {st : List Value} {ce sl pc ix : Nat} (hC : Cx X cc nL own)  (hw : Cond.fieldLink own ix "CampYearsModel" "fineMan" "[I" ∈ gw) (hd : decode cc pc = .ok (.getfield ix, 3)) (kk : wk X a s nL (pc + 3) lv (.ref (adr X.G a 5 32) :: st) ce sl) : wk X a s nL pc lv (.ref (adr X.G a 6 0) :: st) ce sl := k_get hC inX12 (ci := 12) rfl (fx_in f6_0) rfl (slot := 32) (by decide) hw rfl hd kk
theorem gf_X12_33 {X : Kx} {cc : ByteArray} {nL : Nat} {own : String} {a : Ax} {s : Sx} {lv : List (Nat × Value)} {st : List Value} {ce sl pc ix : Nat} (hC : Cx X cc nL own)  (hw : Cond.fieldLink own ix "CampYearsModel" "fineDay" "[I" ∈ gw) (hd : decode cc pc = .ok (.getfield ix, 3)) (kk : wk X a s nL (pc + 3) lv (.ref (adr X.G a 5 33) :: st) ce sl) : wk X a s nL pc lv (.ref (adr X.G a 6 0) :: st) ce sl := k_get hC inX12 (ci := 12) rfl (fx_in f6_0) rfl (slot := 33) (by decide) hw rfl hd kk
theorem gf_X12_34 {X : Kx} {cc : ByteArray} {nL : Nat} {own : String} {a : Ax} {s : Sx} {lv : List (Nat × Value)} {st : List Value} {ce sl pc ix : Nat} (hC : Cx X cc nL own)  (hw : Cond.fieldLink own ix "CampYearsModel" "fineCents" "[I" ∈ gw) (hd : decode cc pc = .ok (.getfield ix, 3)) (kk : wk X a s nL (pc + 3) lv (.ref (adr X.G a 5 34) :: st) ce sl) : wk X a s nL pc lv (.ref (adr X.G a 6 0) :: st) ce sl := k_get hC inX12 (ci := 12) rfl (fx_in f6_0) rfl (slot := 34) (by decide) hw rfl hd kk
theorem gf_X12_35 {X : Kx} {cc : ByteArray} {nL : Nat} {own : String} {a : Ax} {s : Sx} {lv : List (Nat × Value)} {st : List Value} {ce sl pc ix : Nat} (hC : Cx X cc nL own)  (hw : Cond.fieldLink own ix "CampYearsModel" "works" "I" ∈ gw) (hd : decode cc pc = .ok (.getfield ix, 3)) (kk : wk X a s nL (pc + 3) lv (.int (s.1 6 0 35) :: st) ce sl) : wk X a s nL pc lv (.ref (adr X.G a 6 0) :: st) ce sl := k_get hC inX12 (ci := 12) rfl (fx_in f6_0) rfl (slot := 35) (by decide) hw rfl hd kk
theorem pf_X12_35 {X : Kx} {cc : ByteArray} {nL : Nat} {own : String} {a : Ax} {s : Sx} {lv : List (Nat × Value)} {st : List Value} {ce sl pc ix : Nat} (hC : Cx X cc nL own)  {v : Int32} (hw : Cond.fieldLink own ix "CampYearsModel" "works" "I" ∈ gw) (hd : decode cc pc = .ok (.putfield ix, 3)) (kk : ∀ s1, s1 = setI s 6 0 35 v → wk X a s1 nL (pc + 3) lv st ce sl) : wk X a s nL pc lv (.int v :: .ref (adr X.G a 6 0) :: st) ce sl := k_put hC inX12 (ty0 := tyX12) tyX12_ok nmX12 (ci := 12) rfl (fx_in f6_0) rfl rfl (slot := 35) (by decide) hw rfl (by decide +kernel) (Nat.le_of_ble_eq_true rfl) hd (kk _ rfl)
theorem gf_X12_36 {X : Kx} {cc : ByteArray} {nL : Nat} {own : String} {a : Ax} {s : Sx} {lv : List (Nat × Value)} {st : List Value} {ce sl pc ix : Nat} (hC : Cx X cc nL own)  (hw : Cond.fieldLink own ix "CampYearsModel" "workCamp" "[I" ∈ gw) (hd : decode cc pc = .ok (.getfield ix, 3)) (kk : wk X a s nL (pc + 3) lv (.ref (adr X.G a 5 36) :: st) ce sl) : wk X a s nL pc lv (.ref (adr X.G a 6 0) :: st) ce sl := k_get hC inX12 (ci := 12) rfl (fx_in f6_0) rfl (slot := 36) (by decide) hw rfl hd kk
theorem gf_X12_37 {X : Kx} {cc : ByteArray} {nL : Nat} {own : String} {a : Ax} {s : Sx} {lv : List (Nat × Value)} {st : List Value} {ce sl pc ix : Nat} (hC : Cx X cc nL own)  (hw : Cond.fieldLink own ix "CampYearsModel" "needs" "[I" ∈ gw) (hd : decode cc pc = .ok (.getfield ix, 3)) (kk : wk X a s nL (pc + 3) lv (.ref (adr X.G a 5 37) :: st) ce sl) : wk X a s nL pc lv (.ref (adr X.G a 6 0) :: st) ce sl := k_get hC inX12 (ci := 12) rfl (fx_in f6_0) rfl (slot := 37) (by decide) hw rfl hd kk
theorem gf_X12_38 {X : Kx} {cc : ByteArray} {nL : Nat} {own : String} {a : Ax} {s : Sx} {lv : List (Nat × Value)} {st : List Value} {ce sl pc ix : Nat} (hC : Cx X cc nL own)  (hw : Cond.fieldLink own ix "CampYearsModel" "done" "[I" ∈ gw) (hd : decode cc pc = .ok (.getfield ix, 3)) (kk : wk X a s nL (pc + 3) lv (.ref (adr X.G a 5 38) :: st) ce sl) : wk X a s nL pc lv (.ref (adr X.G a 6 0) :: st) ce sl := k_get hC inX12 (ci := 12) rfl (fx_in f6_0) rfl (slot := 38) (by decide) hw rfl hd kk
theorem gf_X12_39 {X : Kx} {cc : ByteArray} {nL : Nat} {own : String} {a : Ax} {s : Sx} {lv : List (Nat × Value)} {st : List Value} {ce sl pc ix : Nat} (hC : Cx X cc nL own)  (hw : Cond.fieldLink own ix "CampYearsModel" "toolsOf" "[I" ∈ gw) (hd : decode cc pc = .ok (.getfield ix, 3)) (kk : wk X a s nL (pc + 3) lv (.ref (adr X.G a 5 39) :: st) ce sl) : wk X a s nL pc lv (.ref (adr X.G a 6 0) :: st) ce sl := k_get hC inX12 (ci := 12) rfl (fx_in f6_0) rfl (slot := 39) (by decide) hw rfl hd kk
theorem gf_X12_40 {X : Kx} {cc : ByteArray} {nL : Nat} {own : String} {a : Ax} {s : Sx} {lv : List (Nat × Value)} {st : List Value} {ce sl pc ix : Nat} (hC : Cx X cc nL own)  (hw : Cond.fieldLink own ix "CampYearsModel" "handsOf" "[I" ∈ gw) (hd : decode cc pc = .ok (.getfield ix, 3)) (kk : wk X a s nL (pc + 3) lv (.ref (adr X.G a 5 40) :: st) ce sl) : wk X a s nL pc lv (.ref (adr X.G a 6 0) :: st) ce sl := k_get hC inX12 (ci := 12) rfl (fx_in f6_0) rfl (slot := 40) (by decide) hw rfl hd kk
theorem gf_X12_41 {X : Kx} {cc : ByteArray} {nL : Nat} {own : String} {a : Ax} {s : Sx} {lv : List (Nat × Value)} {st : List Value} {ce sl pc ix : Nat} (hC : Cx X cc nL own)  (hw : Cond.fieldLink own ix "CampYearsModel" "noTool" "[I" ∈ gw) (hd : decode cc pc = .ok (.getfield ix, 3)) (kk : wk X a s nL (pc + 3) lv (.ref (adr X.G a 5 41) :: st) ce sl) : wk X a s nL pc lv (.ref (adr X.G a 6 0) :: st) ce sl := k_get hC inX12 (ci := 12) rfl (fx_in f6_0) rfl (slot := 41) (by decide) hw rfl hd kk
theorem gf_X12_42 {X : Kx} {cc : ByteArray} {nL : Nat} {own : String} {a : Ax} {s : Sx} {lv : List (Nat × Value)} {st : List Value} {ce sl pc ix : Nat} (hC : Cx X cc nL own)  (hw : Cond.fieldLink own ix "CampYearsModel" "noDay" "[I" ∈ gw) (hd : decode cc pc = .ok (.getfield ix, 3)) (kk : wk X a s nL (pc + 3) lv (.ref (adr X.G a 5 42) :: st) ce sl) : wk X a s nL pc lv (.ref (adr X.G a 6 0) :: st) ce sl := k_get hC inX12 (ci := 12) rfl (fx_in f6_0) rfl (slot := 42) (by decide) hw rfl hd kk
theorem gf_X12_43 {X : Kx} {cc : ByteArray} {nL : Nat} {own : String} {a : Ax} {s : Sx} {lv : List (Nat × Value)} {st : List Value} {ce sl pc ix : Nat} (hC : Cx X cc nL own)  (hw : Cond.fieldLink own ix "CampYearsModel" "counted" "[I" ∈ gw) (hd : decode cc pc = .ok (.getfield ix, 3)) (kk : wk X a s nL (pc + 3) lv (.ref (adr X.G a 5 43) :: st) ce sl) : wk X a s nL pc lv (.ref (adr X.G a 6 0) :: st) ce sl := k_get hC inX12 (ci := 12) rfl (fx_in f6_0) rfl (slot := 43) (by decide) hw rfl hd kk
theorem gf_X12_44 {X : Kx} {cc : ByteArray} {nL : Nat} {own : String} {a : Ax} {s : Sx} {lv : List (Nat × Value)} {st : List Value} {ce sl pc ix : Nat} (hC : Cx X cc nL own)  (hw : Cond.fieldLink own ix "CampYearsModel" "weather" "[I" ∈ gw) (hd : decode cc pc = .ok (.getfield ix, 3)) (kk : wk X a s nL (pc + 3) lv (.ref (adr X.G a 5 44) :: st) ce sl) : wk X a s nL pc lv (.ref (adr X.G a 6 0) :: st) ce sl := k_get hC inX12 (ci := 12) rfl (fx_in f6_0) rfl (slot := 44) (by decide) hw rfl hd kk
theorem gf_X12_45 {X : Kx} {cc : ByteArray} {nL : Nat} {own : String} {a : Ax} {s : Sx} {lv : List (Nat × Value)} {st : List Value} {ce sl pc ix : Nat} (hC : Cx X cc nL own)  (hw : Cond.fieldLink own ix "CampYearsModel" "weatherLong" "I" ∈ gw) (hd : decode cc pc = .ok (.getfield ix, 3)) (kk : wk X a s nL (pc + 3) lv (.int (s.1 6 0 45) :: st) ce sl) : wk X a s nL pc lv (.ref (adr X.G a 6 0) :: st) ce sl := k_get hC inX12 (ci := 12) rfl (fx_in f6_0) rfl (slot := 45) (by decide) hw rfl hd kk
theorem pf_X12_45 {X : Kx} {cc : ByteArray} {nL : Nat} {own : String} {a : Ax} {s : Sx} {lv : List (Nat × Value)} {st : List Value} {ce sl pc ix : Nat} (hC : Cx X cc nL own)  {v : Int32} (hw : Cond.fieldLink own ix "CampYearsModel" "weatherLong" "I" ∈ gw) (hd : decode cc pc = .ok (.putfield ix, 3)) (kk : ∀ s1, s1 = setI s 6 0 45 v → wk X a s1 nL (pc + 3) lv st ce sl) : wk X a s nL pc lv (.int v :: .ref (adr X.G a 6 0) :: st) ce sl := k_put hC inX12 (ty0 := tyX12) tyX12_ok nmX12 (ci := 12) rfl (fx_in f6_0) rfl rfl (slot := 45) (by decide) hw rfl (by decide +kernel) (Nat.le_of_ble_eq_true rfl) hd (kk _ rfl)
theorem gf_X12_46 {X : Kx} {cc : ByteArray} {nL : Nat} {own : String} {a : Ax} {s : Sx} {lv : List (Nat × Value)} {st : List Value} {ce sl pc ix : Nat} (hC : Cx X cc nL own)  (hw : Cond.fieldLink own ix "CampYearsModel" "weeks" "I" ∈ gw) (hd : decode cc pc = .ok (.getfield ix, 3)) (kk : wk X a s nL (pc + 3) lv (.int (s.1 6 0 46) :: st) ce sl) : wk X a s nL pc lv (.ref (adr X.G a 6 0) :: st) ce sl := k_get hC inX12 (ci := 12) rfl (fx_in f6_0) rfl (slot := 46) (by decide) hw rfl hd kk
theorem pf_X12_46 {X : Kx} {cc : ByteArray} {nL : Nat} {own : String} {a : Ax} {s : Sx} {lv : List (Nat × Value)} {st : List Value} {ce sl pc ix : Nat} (hC : Cx X cc nL own)  {v : Int32} (hw : Cond.fieldLink own ix "CampYearsModel" "weeks" "I" ∈ gw) (hd : decode cc pc = .ok (.putfield ix, 3)) (kk : ∀ s1, s1 = setI s 6 0 46 v → wk X a s1 nL (pc + 3) lv st ce sl) : wk X a s nL pc lv (.int v :: .ref (adr X.G a 6 0) :: st) ce sl := k_put hC inX12 (ty0 := tyX12) tyX12_ok nmX12 (ci := 12) rfl (fx_in f6_0) rfl rfl (slot := 46) (by decide) hw rfl (by decide +kernel) (Nat.le_of_ble_eq_true rfl) hd (kk _ rfl)
theorem gf_X12_47 {X : Kx} {cc : ByteArray} {nL : Nat} {own : String} {a : Ax} {s : Sx} {lv : List (Nat × Value)} {st : List Value} {ce sl pc ix : Nat} (hC : Cx X cc nL own)  (hw : Cond.fieldLink own ix "CampYearsModel" "levelA" "[I" ∈ gw) (hd : decode cc pc = .ok (.getfield ix, 3)) (kk : wk X a s nL (pc + 3) lv (.ref (adr X.G a 5 47) :: st) ce sl) : wk X a s nL pc lv (.ref (adr X.G a 6 0) :: st) ce sl := k_get hC inX12 (ci := 12) rfl (fx_in f6_0) rfl (slot := 47) (by decide) hw rfl hd kk
theorem gf_X12_48 {X : Kx} {cc : ByteArray} {nL : Nat} {own : String} {a : Ax} {s : Sx} {lv : List (Nat × Value)} {st : List Value} {ce sl pc ix : Nat} (hC : Cx X cc nL own)  (hw : Cond.fieldLink own ix "CampYearsModel" "levelB" "[I" ∈ gw) (hd : decode cc pc = .ok (.getfield ix, 3)) (kk : wk X a s nL (pc + 3) lv (.ref (adr X.G a 5 48) :: st) ce sl) : wk X a s nL pc lv (.ref (adr X.G a 6 0) :: st) ce sl := k_get hC inX12 (ci := 12) rfl (fx_in f6_0) rfl (slot := 48) (by decide) hw rfl hd kk
theorem gf_X12_49 {X : Kx} {cc : ByteArray} {nL : Nat} {own : String} {a : Ax} {s : Sx} {lv : List (Nat × Value)} {st : List Value} {ce sl pc ix : Nat} (hC : Cx X cc nL own)  (hw : Cond.fieldLink own ix "CampYearsModel" "shares" "[I" ∈ gw) (hd : decode cc pc = .ok (.getfield ix, 3)) (kk : wk X a s nL (pc + 3) lv (.ref (adr X.G a 5 49) :: st) ce sl) : wk X a s nL pc lv (.ref (adr X.G a 6 0) :: st) ce sl := k_get hC inX12 (ci := 12) rfl (fx_in f6_0) rfl (slot := 49) (by decide) hw rfl hd kk
theorem gf_X12_50 {X : Kx} {cc : ByteArray} {nL : Nat} {own : String} {a : Ax} {s : Sx} {lv : List (Nat × Value)} {st : List Value} {ce sl pc ix : Nat} (hC : Cx X cc nL own)  (hw : Cond.fieldLink own ix "CampYearsModel" "stands" "I" ∈ gw) (hd : decode cc pc = .ok (.getfield ix, 3)) (kk : wk X a s nL (pc + 3) lv (.int (s.1 6 0 50) :: st) ce sl) : wk X a s nL pc lv (.ref (adr X.G a 6 0) :: st) ce sl := k_get hC inX12 (ci := 12) rfl (fx_in f6_0) rfl (slot := 50) (by decide) hw rfl hd kk
theorem pf_X12_50 {X : Kx} {cc : ByteArray} {nL : Nat} {own : String} {a : Ax} {s : Sx} {lv : List (Nat × Value)} {st : List Value} {ce sl pc ix : Nat} (hC : Cx X cc nL own)  {v : Int32} (hw : Cond.fieldLink own ix "CampYearsModel" "stands" "I" ∈ gw) (hd : decode cc pc = .ok (.putfield ix, 3)) (kk : ∀ s1, s1 = setI s 6 0 50 v → wk X a s1 nL (pc + 3) lv st ce sl) : wk X a s nL pc lv (.int v :: .ref (adr X.G a 6 0) :: st) ce sl := k_put hC inX12 (ty0 := tyX12) tyX12_ok nmX12 (ci := 12) rfl (fx_in f6_0) rfl rfl (slot := 50) (by decide) hw rfl (by decide +kernel) (Nat.le_of_ble_eq_true rfl) hd (kk _ rfl)
theorem gf_X12_51 {X : Kx} {cc : ByteArray} {nL : Nat} {own : String} {a : Ax} {s : Sx} {lv : List (Nat × Value)} {st : List Value} {ce sl pc ix : Nat} (hC : Cx X cc nL own)  (hw : Cond.fieldLink own ix "CampYearsModel" "standKind" "[I" ∈ gw) (hd : decode cc pc = .ok (.getfield ix, 3)) (kk : wk X a s nL (pc + 3) lv (.ref (adr X.G a 5 51) :: st) ce sl) : wk X a s nL pc lv (.ref (adr X.G a 6 0) :: st) ce sl := k_get hC inX12 (ci := 12) rfl (fx_in f6_0) rfl (slot := 51) (by decide) hw rfl hd kk
theorem gf_X12_52 {X : Kx} {cc : ByteArray} {nL : Nat} {own : String} {a : Ax} {s : Sx} {lv : List (Nat × Value)} {st : List Value} {ce sl pc ix : Nat} (hC : Cx X cc nL own)  (hw : Cond.fieldLink own ix "CampYearsModel" "slopes" "[I" ∈ gw) (hd : decode cc pc = .ok (.getfield ix, 3)) (kk : wk X a s nL (pc + 3) lv (.ref (adr X.G a 5 52) :: st) ce sl) : wk X a s nL pc lv (.ref (adr X.G a 6 0) :: st) ce sl := k_get hC inX12 (ci := 12) rfl (fx_in f6_0) rfl (slot := 52) (by decide) hw rfl hd kk
theorem gf_X12_53 {X : Kx} {cc : ByteArray} {nL : Nat} {own : String} {a : Ax} {s : Sx} {lv : List (Nat × Value)} {st : List Value} {ce sl pc ix : Nat} (hC : Cx X cc nL own)  (hw : Cond.fieldLink own ix "CampYearsModel" "planted" "[I" ∈ gw) (hd : decode cc pc = .ok (.getfield ix, 3)) (kk : wk X a s nL (pc + 3) lv (.ref (adr X.G a 5 53) :: st) ce sl) : wk X a s nL pc lv (.ref (adr X.G a 6 0) :: st) ce sl := k_get hC inX12 (ci := 12) rfl (fx_in f6_0) rfl (slot := 53) (by decide) hw rfl hd kk
theorem gf_X12_54 {X : Kx} {cc : ByteArray} {nL : Nat} {own : String} {a : Ax} {s : Sx} {lv : List (Nat × Value)} {st : List Value} {ce sl pc ix : Nat} (hC : Cx X cc nL own)  (hw : Cond.fieldLink own ix "CampYearsModel" "plantedIn" "[I" ∈ gw) (hd : decode cc pc = .ok (.getfield ix, 3)) (kk : wk X a s nL (pc + 3) lv (.ref (adr X.G a 5 54) :: st) ce sl) : wk X a s nL pc lv (.ref (adr X.G a 6 0) :: st) ce sl := k_get hC inX12 (ci := 12) rfl (fx_in f6_0) rfl (slot := 54) (by decide) hw rfl hd kk
theorem gf_X12_55 {X : Kx} {cc : ByteArray} {nL : Nat} {own : String} {a : Ax} {s : Sx} {lv : List (Nat × Value)} {st : List Value} {ce sl pc ix : Nat} (hC : Cx X cc nL own)  (hw : Cond.fieldLink own ix "CampYearsModel" "fires" "I" ∈ gw) (hd : decode cc pc = .ok (.getfield ix, 3)) (kk : wk X a s nL (pc + 3) lv (.int (s.1 6 0 55) :: st) ce sl) : wk X a s nL pc lv (.ref (adr X.G a 6 0) :: st) ce sl := k_get hC inX12 (ci := 12) rfl (fx_in f6_0) rfl (slot := 55) (by decide) hw rfl hd kk
theorem pf_X12_55 {X : Kx} {cc : ByteArray} {nL : Nat} {own : String} {a : Ax} {s : Sx} {lv : List (Nat × Value)} {st : List Value} {ce sl pc ix : Nat} (hC : Cx X cc nL own)  {v : Int32} (hw : Cond.fieldLink own ix "CampYearsModel" "fires" "I" ∈ gw) (hd : decode cc pc = .ok (.putfield ix, 3)) (kk : ∀ s1, s1 = setI s 6 0 55 v → wk X a s1 nL (pc + 3) lv st ce sl) : wk X a s nL pc lv (.int v :: .ref (adr X.G a 6 0) :: st) ce sl := k_put hC inX12 (ty0 := tyX12) tyX12_ok nmX12 (ci := 12) rfl (fx_in f6_0) rfl rfl (slot := 55) (by decide) hw rfl (by decide +kernel) (Nat.le_of_ble_eq_true rfl) hd (kk _ rfl)
theorem gf_X12_56 {X : Kx} {cc : ByteArray} {nL : Nat} {own : String} {a : Ax} {s : Sx} {lv : List (Nat × Value)} {st : List Value} {ce sl pc ix : Nat} (hC : Cx X cc nL own)  (hw : Cond.fieldLink own ix "CampYearsModel" "fireX" "[I" ∈ gw) (hd : decode cc pc = .ok (.getfield ix, 3)) (kk : wk X a s nL (pc + 3) lv (.ref (adr X.G a 5 56) :: st) ce sl) : wk X a s nL pc lv (.ref (adr X.G a 6 0) :: st) ce sl := k_get hC inX12 (ci := 12) rfl (fx_in f6_0) rfl (slot := 56) (by decide) hw rfl hd kk
theorem gf_X12_57 {X : Kx} {cc : ByteArray} {nL : Nat} {own : String} {a : Ax} {s : Sx} {lv : List (Nat × Value)} {st : List Value} {ce sl pc ix : Nat} (hC : Cx X cc nL own)  (hw : Cond.fieldLink own ix "CampYearsModel" "fireY" "[I" ∈ gw) (hd : decode cc pc = .ok (.getfield ix, 3)) (kk : wk X a s nL (pc + 3) lv (.ref (adr X.G a 5 57) :: st) ce sl) : wk X a s nL pc lv (.ref (adr X.G a 6 0) :: st) ce sl := k_get hC inX12 (ci := 12) rfl (fx_in f6_0) rfl (slot := 57) (by decide) hw rfl hd kk
theorem gf_X12_58 {X : Kx} {cc : ByteArray} {nL : Nat} {own : String} {a : Ax} {s : Sx} {lv : List (Nat × Value)} {st : List Value} {ce sl pc ix : Nat} (hC : Cx X cc nL own)  (hw : Cond.fieldLink own ix "CampYearsModel" "fireNeed" "[I" ∈ gw) (hd : decode cc pc = .ok (.getfield ix, 3)) (kk : wk X a s nL (pc + 3) lv (.ref (adr X.G a 5 58) :: st) ce sl) : wk X a s nL pc lv (.ref (adr X.G a 6 0) :: st) ce sl := k_get hC inX12 (ci := 12) rfl (fx_in f6_0) rfl (slot := 58) (by decide) hw rfl hd kk
theorem gf_X12_59 {X : Kx} {cc : ByteArray} {nL : Nat} {own : String} {a : Ax} {s : Sx} {lv : List (Nat × Value)} {st : List Value} {ce sl pc ix : Nat} (hC : Cx X cc nL own)  (hw : Cond.fieldLink own ix "CampYearsModel" "spreads" "[I" ∈ gw) (hd : decode cc pc = .ok (.getfield ix, 3)) (kk : wk X a s nL (pc + 3) lv (.ref (adr X.G a 5 59) :: st) ce sl) : wk X a s nL pc lv (.ref (adr X.G a 6 0) :: st) ce sl := k_get hC inX12 (ci := 12) rfl (fx_in f6_0) rfl (slot := 59) (by decide) hw rfl hd kk
theorem gf_X12_60 {X : Kx} {cc : ByteArray} {nL : Nat} {own : String} {a : Ax} {s : Sx} {lv : List (Nat × Value)} {st : List Value} {ce sl pc ix : Nat} (hC : Cx X cc nL own)  (hw : Cond.fieldLink own ix "CampYearsModel" "crews" "[I" ∈ gw) (hd : decode cc pc = .ok (.getfield ix, 3)) (kk : wk X a s nL (pc + 3) lv (.ref (adr X.G a 5 60) :: st) ce sl) : wk X a s nL pc lv (.ref (adr X.G a 6 0) :: st) ce sl := k_get hC inX12 (ci := 12) rfl (fx_in f6_0) rfl (slot := 60) (by decide) hw rfl hd kk
theorem gf_X12_61 {X : Kx} {cc : ByteArray} {nL : Nat} {own : String} {a : Ax} {s : Sx} {lv : List (Nat × Value)} {st : List Value} {ce sl pc ix : Nat} (hC : Cx X cc nL own)  (hw : Cond.fieldLink own ix "CampYearsModel" "goes" "[I" ∈ gw) (hd : decode cc pc = .ok (.getfield ix, 3)) (kk : wk X a s nL (pc + 3) lv (.ref (adr X.G a 5 61) :: st) ce sl) : wk X a s nL pc lv (.ref (adr X.G a 6 0) :: st) ce sl := k_get hC inX12 (ci := 12) rfl (fx_in f6_0) rfl (slot := 61) (by decide) hw rfl hd kk
theorem gf_X12_62 {X : Kx} {cc : ByteArray} {nL : Nat} {own : String} {a : Ax} {s : Sx} {lv : List (Nat × Value)} {st : List Value} {ce sl pc ix : Nat} (hC : Cx X cc nL own)  (hw : Cond.fieldLink own ix "CampYearsModel" "hours" "[I" ∈ gw) (hd : decode cc pc = .ok (.getfield ix, 3)) (kk : wk X a s nL (pc + 3) lv (.ref (adr X.G a 5 62) :: st) ce sl) : wk X a s nL pc lv (.ref (adr X.G a 6 0) :: st) ce sl := k_get hC inX12 (ci := 12) rfl (fx_in f6_0) rfl (slot := 62) (by decide) hw rfl hd kk
theorem gf_X12_63 {X : Kx} {cc : ByteArray} {nL : Nat} {own : String} {a : Ax} {s : Sx} {lv : List (Nat × Value)} {st : List Value} {ce sl pc ix : Nat} (hC : Cx X cc nL own)  (hw : Cond.fieldLink own ix "CampYearsModel" "places" "I" ∈ gw) (hd : decode cc pc = .ok (.getfield ix, 3)) (kk : wk X a s nL (pc + 3) lv (.int (s.1 6 0 63) :: st) ce sl) : wk X a s nL pc lv (.ref (adr X.G a 6 0) :: st) ce sl := k_get hC inX12 (ci := 12) rfl (fx_in f6_0) rfl (slot := 63) (by decide) hw rfl hd kk
theorem pf_X12_63 {X : Kx} {cc : ByteArray} {nL : Nat} {own : String} {a : Ax} {s : Sx} {lv : List (Nat × Value)} {st : List Value} {ce sl pc ix : Nat} (hC : Cx X cc nL own)  {v : Int32} (hw : Cond.fieldLink own ix "CampYearsModel" "places" "I" ∈ gw) (hd : decode cc pc = .ok (.putfield ix, 3)) (kk : ∀ s1, s1 = setI s 6 0 63 v → wk X a s1 nL (pc + 3) lv st ce sl) : wk X a s nL pc lv (.int v :: .ref (adr X.G a 6 0) :: st) ce sl := k_put hC inX12 (ty0 := tyX12) tyX12_ok nmX12 (ci := 12) rfl (fx_in f6_0) rfl rfl (slot := 63) (by decide) hw rfl (by decide +kernel) (Nat.le_of_ble_eq_true rfl) hd (kk _ rfl)
theorem gf_X12_64 {X : Kx} {cc : ByteArray} {nL : Nat} {own : String} {a : Ax} {s : Sx} {lv : List (Nat × Value)} {st : List Value} {ce sl pc ix : Nat} (hC : Cx X cc nL own)  (hw : Cond.fieldLink own ix "CampYearsModel" "placeX" "[I" ∈ gw) (hd : decode cc pc = .ok (.getfield ix, 3)) (kk : wk X a s nL (pc + 3) lv (.ref (adr X.G a 5 64) :: st) ce sl) : wk X a s nL pc lv (.ref (adr X.G a 6 0) :: st) ce sl := k_get hC inX12 (ci := 12) rfl (fx_in f6_0) rfl (slot := 64) (by decide) hw rfl hd kk
theorem gf_X12_65 {X : Kx} {cc : ByteArray} {nL : Nat} {own : String} {a : Ax} {s : Sx} {lv : List (Nat × Value)} {st : List Value} {ce sl pc ix : Nat} (hC : Cx X cc nL own)  (hw : Cond.fieldLink own ix "CampYearsModel" "placeY" "[I" ∈ gw) (hd : decode cc pc = .ok (.getfield ix, 3)) (kk : wk X a s nL (pc + 3) lv (.ref (adr X.G a 5 65) :: st) ce sl) : wk X a s nL pc lv (.ref (adr X.G a 6 0) :: st) ce sl := k_get hC inX12 (ci := 12) rfl (fx_in f6_0) rfl (slot := 65) (by decide) hw rfl hd kk
theorem gf_X12_66 {X : Kx} {cc : ByteArray} {nL : Nat} {own : String} {a : Ax} {s : Sx} {lv : List (Nat × Value)} {st : List Value} {ce sl pc ix : Nat} (hC : Cx X cc nL own)  (hw : Cond.fieldLink own ix "CampYearsModel" "reaches" "[I" ∈ gw) (hd : decode cc pc = .ok (.getfield ix, 3)) (kk : wk X a s nL (pc + 3) lv (.ref (adr X.G a 5 66) :: st) ce sl) : wk X a s nL pc lv (.ref (adr X.G a 6 0) :: st) ce sl := k_get hC inX12 (ci := 12) rfl (fx_in f6_0) rfl (slot := 66) (by decide) hw rfl hd kk
theorem gf_X12_67 {X : Kx} {cc : ByteArray} {nL : Nat} {own : String} {a : Ax} {s : Sx} {lv : List (Nat × Value)} {st : List Value} {ce sl pc ix : Nat} (hC : Cx X cc nL own)  (hw : Cond.fieldLink own ix "CampYearsModel" "hasWater" "[Z" ∈ gw) (hd : decode cc pc = .ok (.getfield ix, 3)) (kk : wk X a s nL (pc + 3) lv (.ref (adr X.G a 5 67) :: st) ce sl) : wk X a s nL pc lv (.ref (adr X.G a 6 0) :: st) ce sl := k_get hC inX12 (ci := 12) rfl (fx_in f6_0) rfl (slot := 67) (by decide) hw rfl hd kk
theorem gf_X12_68 {X : Kx} {cc : ByteArray} {nL : Nat} {own : String} {a : Ax} {s : Sx} {lv : List (Nat × Value)} {st : List Value} {ce sl pc ix : Nat} (hC : Cx X cc nL own)  (hw : Cond.fieldLink own ix "CampYearsModel" "most" "[J" ∈ gw) (hd : decode cc pc = .ok (.getfield ix, 3)) (kk : wk X a s nL (pc + 3) lv (.ref (adr X.G a 5 68) :: st) ce sl) : wk X a s nL pc lv (.ref (adr X.G a 6 0) :: st) ce sl := k_get hC inX12 (ci := 12) rfl (fx_in f6_0) rfl (slot := 68) (by decide) hw rfl hd kk
theorem gf_X12_69 {X : Kx} {cc : ByteArray} {nL : Nat} {own : String} {a : Ax} {s : Sx} {lv : List (Nat × Value)} {st : List Value} {ce sl pc ix : Nat} (hC : Cx X cc nL own)  (hw : Cond.fieldLink own ix "CampYearsModel" "toX" "[I" ∈ gw) (hd : decode cc pc = .ok (.getfield ix, 3)) (kk : wk X a s nL (pc + 3) lv (.ref (adr X.G a 5 69) :: st) ce sl) : wk X a s nL pc lv (.ref (adr X.G a 6 0) :: st) ce sl := k_get hC inX12 (ci := 12) rfl (fx_in f6_0) rfl (slot := 69) (by decide) hw rfl hd kk
theorem gf_X12_70 {X : Kx} {cc : ByteArray} {nL : Nat} {own : String} {a : Ax} {s : Sx} {lv : List (Nat × Value)} {st : List Value} {ce sl pc ix : Nat} (hC : Cx X cc nL own)  (hw : Cond.fieldLink own ix "CampYearsModel" "toY" "[I" ∈ gw) (hd : decode cc pc = .ok (.getfield ix, 3)) (kk : wk X a s nL (pc + 3) lv (.ref (adr X.G a 5 70) :: st) ce sl) : wk X a s nL pc lv (.ref (adr X.G a 6 0) :: st) ce sl := k_get hC inX12 (ci := 12) rfl (fx_in f6_0) rfl (slot := 70) (by decide) hw rfl hd kk
theorem r_iald {X : Kx} {cc : ByteArray} {nL : Nat} {own : String} (hC : Cx X cc nL own) {a : Ax} {s : Sx} {lv : List (Nat × Value)} {st : List Value} {ce sl pc k j n : Nat} {i : Int32} (ha : IA k j n) (hi : vp_in i n) (hd : decode cc pc = .ok (.iaload, 1)) (kk : wk X a s nL (pc + 1) lv (.int (s.1 k j i.toNatClampNeg) :: st) ce sl) : wk X a s nL pc lv (.int i :: .ref (adr X.G a k j) :: st) ce sl := k_iald hC (fx_in ha.1) (fun ri rl => ha.2 _ _ _ ri rl) hi hd kk
theorem r_zald {X : Kx} {cc : ByteArray} {nL : Nat} {own : String} (hC : Cx X cc nL own) {a : Ax} {s : Sx} {lv : List (Nat × Value)} {st : List Value} {ce sl pc k j n : Nat} {i : Int32} (ha : ZA k j n) (hi : vp_in i n) (hd : decode cc pc = .ok (.baload, 1)) (kk : wk X a s nL (pc + 1) lv (.int (s.1 k j i.toNatClampNeg) :: st) ce sl) : wk X a s nL pc lv (.int i :: .ref (adr X.G a k j) :: st) ce sl := k_zald hC (fx_in ha.1) (fun ri rl => ha.2 _ _ _ ri rl) hi hd kk
theorem r_lald {X : Kx} {cc : ByteArray} {nL : Nat} {own : String} (hC : Cx X cc nL own) {a : Ax} {s : Sx} {lv : List (Nat × Value)} {st : List Value} {ce sl pc k j n : Nat} {i : Int32} (ha : JA k j n) (hi : vp_in i n) (hd : decode cc pc = .ok (.laload, 1)) (kk : wk X a s nL (pc + 1) lv (.long (s.2.1 k j i.toNatClampNeg) :: st) ce sl) : wk X a s nL pc lv (.int i :: .ref (adr X.G a k j) :: st) ce sl := k_lald hC (fx_in ha.1) (fun ri rl => ha.2 _ _ _ ri rl) hi hd kk
theorem r_iast {X : Kx} {cc : ByteArray} {nL : Nat} {own : String} (hC : Cx X cc nL own) {a : Ax} {s : Sx} {lv : List (Nat × Value)} {st : List Value} {ce sl pc k j n : Nat} {i : Int32} {x : Int32} (ha : IA k j n) (hi : vp_in i n) (hd : decode cc pc = .ok (.iastore, 1)) (kk : ∀ s1, s1 = setI s k j i.toNatClampNeg x → wk X a s1 nL (pc + 1) lv st ce sl) : wk X a s nL pc lv (.int x :: .int i :: .ref (adr X.G a k j) :: st) ce sl := k_iast hC (fx_in ha.1) (fun ri rl => ha.2 _ _ _ ri rl) hi hd (kk _ rfl)
theorem r_zast {X : Kx} {cc : ByteArray} {nL : Nat} {own : String} (hC : Cx X cc nL own) {a : Ax} {s : Sx} {lv : List (Nat × Value)} {st : List Value} {ce sl pc k j n : Nat} {i : Int32} {x : Int32} (ha : ZA k j n) (hi : vp_in i n) (hd : decode cc pc = .ok (.bastore, 1)) (kk : ∀ s1, s1 = setI s k j i.toNatClampNeg (vp_nar .boolean x) → wk X a s1 nL (pc + 1) lv st ce sl) : wk X a s nL pc lv (.int x :: .int i :: .ref (adr X.G a k j) :: st) ce sl := k_zast hC (fx_in ha.1) (fun ri rl => ha.2 _ _ _ ri rl) hi hd (kk _ rfl)
theorem r_last {X : Kx} {cc : ByteArray} {nL : Nat} {own : String} (hC : Cx X cc nL own) {a : Ax} {s : Sx} {lv : List (Nat × Value)} {st : List Value} {ce sl pc k j n : Nat} {i : Int32} {x : Int64} (ha : JA k j n) (hi : vp_in i n) (hd : decode cc pc = .ok (.lastore, 1)) (kk : ∀ s1, s1 = setJ s k j i.toNatClampNeg x → wk X a s1 nL (pc + 1) lv st ce sl) : wk X a s nL pc lv (.long x :: .int i :: .ref (adr X.G a k j) :: st) ce sl := k_last hC (fx_in ha.1) (fun ri rl => ha.2 _ _ _ ri rl) hi hd (kk _ rfl)
theorem r_alenI {X : Kx} {cc : ByteArray} {nL : Nat} {own : String} (hC : Cx X cc nL own) {a : Ax} {s : Sx} {lv : List (Nat × Value)} {st : List Value} {ce sl pc k j n : Nat} (ha : IA k j n) {v : Int32} (hv : Int32.ofNat n = v) (hd : decode cc pc = .ok (.arraylength, 1)) (kk : wk X a s nL (pc + 1) lv (.int v :: st) ce sl) : wk X a s nL pc lv (.ref (adr X.G a k j) :: st) ce sl := k_alen hC 0 (fx_in ha.1) (ha.2 _ _ _ _ _) rfl hv hd kk
theorem r_alenJ {X : Kx} {cc : ByteArray} {nL : Nat} {own : String} (hC : Cx X cc nL own) {a : Ax} {s : Sx} {lv : List (Nat × Value)} {st : List Value} {ce sl pc k j n : Nat} (ha : JA k j n) {v : Int32} (hv : Int32.ofNat n = v) (hd : decode cc pc = .ok (.arraylength, 1)) (kk : wk X a s nL (pc + 1) lv (.int v :: st) ce sl) : wk X a s nL pc lv (.ref (adr X.G a k j) :: st) ce sl := k_alen hC 1 (fx_in ha.1) (ha.2 _ _ _ _ _) rfl hv hd kk
theorem r_aldP {X : Kx} {cc : ByteArray} {nL : Nat} {own : String} (hC : Cx X cc nL own) {a : Ax} {s : Sx} {lv : List (Nat × Value)} {st : List Value} {ce sl pc : Nat} {i : Int32} (hi : vp_in i 30) (hd : decode cc pc = .ok (.aaload, 1)) (kn : ¬ i.toNatClampNeg < s.2.2 1 → wk X a s nL (pc + 1) lv (.null :: st) ce sl) (kk : i.toNatClampNeg < s.2.2 1 → wk X a s nL (pc + 1) lv (.ref (adr X.G a 1 i.toNatClampNeg) :: st) ce sl) : wk X a s nL pc lv (.int i :: .ref (adr X.G a 0 6) :: st) ce sl := k_aldP hC (cnt := 1) (pick := a.1) 3 (fx_in f0_6) (fun _ _ => rfl) rfl hi hd kn kk
theorem r_lenP {X : Kx} {cc : ByteArray} {nL : Nat} {own : String} (hC : Cx X cc nL own) {a : Ax} {s : Sx} {lv : List (Nat × Value)} {st : List Value} {ce sl pc : Nat} (hd : decode cc pc = .ok (.arraylength, 1)) (kk : wk X a s nL (pc + 1) lv (.int 30 :: st) ce sl) : wk X a s nL pc lv (.ref (adr X.G a 0 6) :: st) ce sl := k_alen hC 3 (fx_in f0_6) rfl rfl rfl hd kk
theorem r_aldO {X : Kx} {cc : ByteArray} {nL : Nat} {own : String} (hC : Cx X cc nL own) {a : Ax} {s : Sx} {lv : List (Nat × Value)} {st : List Value} {ce sl pc : Nat} {i : Int32} (hi : vp_in i 12) (hd : decode cc pc = .ok (.aaload, 1)) (kn : ¬ i.toNatClampNeg < s.2.2 3 → wk X a s nL (pc + 1) lv (.null :: st) ce sl) (kk : i.toNatClampNeg < s.2.2 3 → wk X a s nL (pc + 1) lv (.ref (adr X.G a 2 i.toNatClampNeg) :: st) ce sl) : wk X a s nL pc lv (.int i :: .ref (adr X.G a 0 8) :: st) ce sl := k_aldP hC (cnt := 3) (pick := a.2.1) 4 (fx_in f0_8) (fun _ _ => rfl) rfl hi hd kn kk
theorem r_lenO {X : Kx} {cc : ByteArray} {nL : Nat} {own : String} (hC : Cx X cc nL own) {a : Ax} {s : Sx} {lv : List (Nat × Value)} {st : List Value} {ce sl pc : Nat} (hd : decode cc pc = .ok (.arraylength, 1)) (kk : wk X a s nL (pc + 1) lv (.int 12 :: st) ce sl) : wk X a s nL pc lv (.ref (adr X.G a 0 8) :: st) ce sl := k_alen hC 4 (fx_in f0_8) rfl rfl rfl hd kk
theorem r_aldW {X : Kx} {cc : ByteArray} {nL : Nat} {own : String} (hC : Cx X cc nL own) {a : Ax} {s : Sx} {lv : List (Nat × Value)} {st : List Value} {ce sl pc : Nat} {i : Int32} (hi : vp_in i 8) (hd : decode cc pc = .ok (.aaload, 1)) (kn : ¬ i.toNatClampNeg < s.2.2 5 → wk X a s nL (pc + 1) lv (.null :: st) ce sl) (kk : i.toNatClampNeg < s.2.2 5 → wk X a s nL (pc + 1) lv (.ref (adr X.G a 3 i.toNatClampNeg) :: st) ce sl) : wk X a s nL pc lv (.int i :: .ref (adr X.G a 0 15) :: st) ce sl := k_aldP hC (cnt := 5) (pick := a.2.2.1) 5 (fx_in f0_15) (fun _ _ => rfl) rfl hi hd kn kk
theorem r_lenW {X : Kx} {cc : ByteArray} {nL : Nat} {own : String} (hC : Cx X cc nL own) {a : Ax} {s : Sx} {lv : List (Nat × Value)} {st : List Value} {ce sl pc : Nat} (hd : decode cc pc = .ok (.arraylength, 1)) (kk : wk X a s nL (pc + 1) lv (.int 8 :: st) ce sl) : wk X a s nL pc lv (.ref (adr X.G a 0 15) :: st) ce sl := k_alen hC 5 (fx_in f0_15) rfl rfl rfl hd kk
theorem cx_P {G : Gx} {pf pg : Nat → Nat → Option Nat} (hp : ∀ t, t ≠ 0 → t < 3 → pf t = pg t) : ∀ (k j : Nat) (ri : Nat → Int32) (rl : Nat → Int64), ¬ (k = 0 ∧ j = 6) → ctp G pf k j ri rl = ctp G pg k j ri rl := by
  intro k j ri rl h
  match k, h with
  | 0, h =>
    match j, h with
    | 0, h => rfl
    | 1, h => rfl
    | 2, h => rfl
    | 3, h => rfl
    | 4, h => rfl
    | 5, h => rfl
    | 6, h => exact absurd ⟨rfl, rfl⟩ h
    | 7, h => rfl
    | 8, h => exact congrArg (fun z => (Sum.inl (G.2.2.1 4, 12, Sum.inr (Sum.inr (Sum.inr (Sum.inr z)))) : va_E)) (hp 1 (by decide) (by decide))
    | 9, h => rfl
    | 10, h => rfl
    | 11, h => rfl
    | 12, h => rfl
    | 13, h => rfl
    | 14, h => rfl
    | 15, h => exact congrArg (fun z => (Sum.inl (G.2.2.1 5, 8, Sum.inr (Sum.inr (Sum.inr (Sum.inr z)))) : va_E)) (hp 2 (by decide) (by decide))
    | 16, h => rfl
    | 17, h => rfl
    | 18, h => rfl
    | 19, h => rfl
    | 20, h => rfl
    | 21, h => rfl
    | 22, h => rfl
    | 23, h => rfl
    | 24, h => rfl
    | 25, h => rfl
    | 26, h => rfl
    | 27, h => rfl
    | 28, h => rfl
    | 29, h => rfl
    | 30, h => rfl
    | 31, h => rfl
    | 32, h => rfl
    | 33, h => rfl
    | 34, h => rfl
    | 35, h => rfl
    | 36, h => rfl
    | 37, h => rfl
    | 38, h => rfl
    | 39, h => rfl
    | 40, h => rfl
    | 41, h => rfl
    | 42, h => rfl
    | 43, h => rfl
    | 44, h => rfl
    | 45, h => rfl
    | 46, h => rfl
    | 47, h => rfl
    | 48, h => rfl
    | 49, h => rfl
    | q + 50, h => rfl
  | 1, _ => rfl
  | 2, _ => rfl
  | 3, _ => rfl
  | 4, _ => rfl
  | 5, _ =>
    match j with
    | 0 => rfl
    | 1 => rfl
    | 2 => rfl
    | 3 => rfl
    | 4 => rfl
    | 5 => rfl
    | 6 => rfl
    | 7 => rfl
    | 8 => rfl
    | 9 => rfl
    | 10 => rfl
    | 11 => rfl
    | 12 => rfl
    | 13 => rfl
    | 14 => rfl
    | 15 => rfl
    | 16 => rfl
    | 17 => rfl
    | 18 => rfl
    | 19 => rfl
    | 20 => rfl
    | 21 => rfl
    | 22 => rfl
    | 23 => rfl
    | 24 => rfl
    | 25 => rfl
    | 26 => rfl
    | 27 => rfl
    | 28 => rfl
    | 29 => rfl
    | 30 => rfl
    | 31 => rfl
    | 32 => rfl
    | 33 => rfl
    | 34 => rfl
    | 35 => rfl
    | 36 => rfl
    | 37 => rfl
    | 38 => rfl
    | 39 => rfl
    | 40 => rfl
    | 41 => rfl
    | 42 => rfl
    | 43 => rfl
    | 44 => rfl
    | 45 => rfl
    | 46 => rfl
    | 47 => rfl
    | 48 => rfl
    | 49 => rfl
    | 50 => rfl
    | 51 => rfl
    | 52 => rfl
    | 53 => rfl
    | 54 => rfl
    | 55 => rfl
    | 56 => rfl
    | 57 => rfl
    | 58 => rfl
    | 59 => rfl
    | 60 => rfl
    | 61 => rfl
    | 62 => rfl
    | 63 => rfl
    | 64 => rfl
    | 65 => rfl
    | 66 => rfl
    | 67 => rfl
    | 68 => rfl
    | 69 => rfl
    | 70 => rfl
    | q + 71 => rfl
  | q + 6, _ => rfl
theorem r_astP {X : Kx} {cc : ByteArray} {nL : Nat} {own : String} (hC : Cx X cc nL own) {a : Ax} {s : Sx} {lv : List (Nat × Value)} {st : List Value} {ce sl pc : Nat} {i : Int32} {p : Nat} (hp : p < s.2.2 0) (hip : i.toNatClampNeg = s.2.2 1) (hpp : p = s.2.2 1) (hi : vp_in i 30) (hd : decode cc pc = .ok (.aastore, 1)) (kk : ∀ s1, s1 = setN s 1 (s.2.2 1 + 1) → wk X a s1 nL (pc + 1) lv st ce sl) : wk X a s nL pc lv (.ref (adr X.G a 1 p) :: .int i :: .ref (adr X.G a 0 6) :: st) ce sl := k_astP hC (cnt := 1) (kd := 1) (ci := 6) (pick := a.1) 3 (fx_in f0_6) (fun m _ _ _ => rfl) rfl (px_in hp) rfl rfl rfl hip hpp hi rfl (fun k j h ri rl => cx_P (fun t h1 h2 => by rcases (show t = 0 ∨ t = 1 ∨ t = 2 by omega) with rfl | rfl | rfl <;> first | exact absurd rfl h1 | rfl) k j ri rl h) hd (kk _ rfl)
theorem cx_O {G : Gx} {pf pg : Nat → Nat → Option Nat} (hp : ∀ t, t ≠ 1 → t < 3 → pf t = pg t) : ∀ (k j : Nat) (ri : Nat → Int32) (rl : Nat → Int64), ¬ (k = 0 ∧ j = 8) → ctp G pf k j ri rl = ctp G pg k j ri rl := by
  intro k j ri rl h
  match k, h with
  | 0, h =>
    match j, h with
    | 0, h => rfl
    | 1, h => rfl
    | 2, h => rfl
    | 3, h => rfl
    | 4, h => rfl
    | 5, h => rfl
    | 6, h => exact congrArg (fun z => (Sum.inl (G.2.2.1 3, 30, Sum.inr (Sum.inr (Sum.inr (Sum.inr z)))) : va_E)) (hp 0 (by decide) (by decide))
    | 7, h => rfl
    | 8, h => exact absurd ⟨rfl, rfl⟩ h
    | 9, h => rfl
    | 10, h => rfl
    | 11, h => rfl
    | 12, h => rfl
    | 13, h => rfl
    | 14, h => rfl
    | 15, h => exact congrArg (fun z => (Sum.inl (G.2.2.1 5, 8, Sum.inr (Sum.inr (Sum.inr (Sum.inr z)))) : va_E)) (hp 2 (by decide) (by decide))
    | 16, h => rfl
    | 17, h => rfl
    | 18, h => rfl
    | 19, h => rfl
    | 20, h => rfl
    | 21, h => rfl
    | 22, h => rfl
    | 23, h => rfl
    | 24, h => rfl
    | 25, h => rfl
    | 26, h => rfl
    | 27, h => rfl
    | 28, h => rfl
    | 29, h => rfl
    | 30, h => rfl
    | 31, h => rfl
    | 32, h => rfl
    | 33, h => rfl
    | 34, h => rfl
    | 35, h => rfl
    | 36, h => rfl
    | 37, h => rfl
    | 38, h => rfl
    | 39, h => rfl
    | 40, h => rfl
    | 41, h => rfl
    | 42, h => rfl
    | 43, h => rfl
    | 44, h => rfl
    | 45, h => rfl
    | 46, h => rfl
    | 47, h => rfl
    | 48, h => rfl
    | 49, h => rfl
    | q + 50, h => rfl
  | 1, _ => rfl
  | 2, _ => rfl
  | 3, _ => rfl
  | 4, _ => rfl
  | 5, _ =>
    match j with
    | 0 => rfl
    | 1 => rfl
    | 2 => rfl
    | 3 => rfl
    | 4 => rfl
    | 5 => rfl
    | 6 => rfl
    | 7 => rfl
    | 8 => rfl
    | 9 => rfl
    | 10 => rfl
    | 11 => rfl
    | 12 => rfl
    | 13 => rfl
    | 14 => rfl
    | 15 => rfl
    | 16 => rfl
    | 17 => rfl
    | 18 => rfl
    | 19 => rfl
    | 20 => rfl
    | 21 => rfl
    | 22 => rfl
    | 23 => rfl
    | 24 => rfl
    | 25 => rfl
    | 26 => rfl
    | 27 => rfl
    | 28 => rfl
    | 29 => rfl
    | 30 => rfl
    | 31 => rfl
    | 32 => rfl
    | 33 => rfl
    | 34 => rfl
    | 35 => rfl
    | 36 => rfl
    | 37 => rfl
    | 38 => rfl
    | 39 => rfl
    | 40 => rfl
    | 41 => rfl
    | 42 => rfl
    | 43 => rfl
    | 44 => rfl
    | 45 => rfl
    | 46 => rfl
    | 47 => rfl
    | 48 => rfl
    | 49 => rfl
    | 50 => rfl
    | 51 => rfl
    | 52 => rfl
    | 53 => rfl
    | 54 => rfl
    | 55 => rfl
    | 56 => rfl
    | 57 => rfl
    | 58 => rfl
    | 59 => rfl
    | 60 => rfl
    | 61 => rfl
    | 62 => rfl
    | 63 => rfl
    | 64 => rfl
    | 65 => rfl
    | 66 => rfl
    | 67 => rfl
    | 68 => rfl
    | 69 => rfl
    | 70 => rfl
    | q + 71 => rfl
  | q + 6, _ => rfl
theorem r_astO {X : Kx} {cc : ByteArray} {nL : Nat} {own : String} (hC : Cx X cc nL own) {a : Ax} {s : Sx} {lv : List (Nat × Value)} {st : List Value} {ce sl pc : Nat} {i : Int32} {p : Nat} (hp : p < s.2.2 2) (hip : i.toNatClampNeg = s.2.2 3) (hpp : p = s.2.2 3) (hi : vp_in i 12) (hd : decode cc pc = .ok (.aastore, 1)) (kk : ∀ s1, s1 = setN s 3 (s.2.2 3 + 1) → wk X a s1 nL (pc + 1) lv st ce sl) : wk X a s nL pc lv (.ref (adr X.G a 2 p) :: .int i :: .ref (adr X.G a 0 8) :: st) ce sl := k_astP hC (cnt := 3) (kd := 2) (ci := 2) (pick := a.2.1) 4 (fx_in f0_8) (fun m _ _ _ => rfl) rfl (ox_in hp) rfl rfl rfl hip hpp hi rfl (fun k j h ri rl => cx_O (fun t h1 h2 => by rcases (show t = 0 ∨ t = 1 ∨ t = 2 by omega) with rfl | rfl | rfl <;> first | exact absurd rfl h1 | rfl) k j ri rl h) hd (kk _ rfl)
theorem cx_W {G : Gx} {pf pg : Nat → Nat → Option Nat} (hp : ∀ t, t ≠ 2 → t < 3 → pf t = pg t) : ∀ (k j : Nat) (ri : Nat → Int32) (rl : Nat → Int64), ¬ (k = 0 ∧ j = 15) → ctp G pf k j ri rl = ctp G pg k j ri rl := by
  intro k j ri rl h
  match k, h with
  | 0, h =>
    match j, h with
    | 0, h => rfl
    | 1, h => rfl
    | 2, h => rfl
    | 3, h => rfl
    | 4, h => rfl
    | 5, h => rfl
    | 6, h => exact congrArg (fun z => (Sum.inl (G.2.2.1 3, 30, Sum.inr (Sum.inr (Sum.inr (Sum.inr z)))) : va_E)) (hp 0 (by decide) (by decide))
    | 7, h => rfl
    | 8, h => exact congrArg (fun z => (Sum.inl (G.2.2.1 4, 12, Sum.inr (Sum.inr (Sum.inr (Sum.inr z)))) : va_E)) (hp 1 (by decide) (by decide))
    | 9, h => rfl
    | 10, h => rfl
    | 11, h => rfl
    | 12, h => rfl
    | 13, h => rfl
    | 14, h => rfl
    | 15, h => exact absurd ⟨rfl, rfl⟩ h
    | 16, h => rfl
    | 17, h => rfl
    | 18, h => rfl
    | 19, h => rfl
    | 20, h => rfl
    | 21, h => rfl
    | 22, h => rfl
    | 23, h => rfl
    | 24, h => rfl
    | 25, h => rfl
    | 26, h => rfl
    | 27, h => rfl
    | 28, h => rfl
    | 29, h => rfl
    | 30, h => rfl
    | 31, h => rfl
    | 32, h => rfl
    | 33, h => rfl
    | 34, h => rfl
    | 35, h => rfl
    | 36, h => rfl
    | 37, h => rfl
    | 38, h => rfl
    | 39, h => rfl
    | 40, h => rfl
    | 41, h => rfl
    | 42, h => rfl
    | 43, h => rfl
    | 44, h => rfl
    | 45, h => rfl
    | 46, h => rfl
    | 47, h => rfl
    | 48, h => rfl
    | 49, h => rfl
    | q + 50, h => rfl
  | 1, _ => rfl
  | 2, _ => rfl
  | 3, _ => rfl
  | 4, _ => rfl
  | 5, _ =>
    match j with
    | 0 => rfl
    | 1 => rfl
    | 2 => rfl
    | 3 => rfl
    | 4 => rfl
    | 5 => rfl
    | 6 => rfl
    | 7 => rfl
    | 8 => rfl
    | 9 => rfl
    | 10 => rfl
    | 11 => rfl
    | 12 => rfl
    | 13 => rfl
    | 14 => rfl
    | 15 => rfl
    | 16 => rfl
    | 17 => rfl
    | 18 => rfl
    | 19 => rfl
    | 20 => rfl
    | 21 => rfl
    | 22 => rfl
    | 23 => rfl
    | 24 => rfl
    | 25 => rfl
    | 26 => rfl
    | 27 => rfl
    | 28 => rfl
    | 29 => rfl
    | 30 => rfl
    | 31 => rfl
    | 32 => rfl
    | 33 => rfl
    | 34 => rfl
    | 35 => rfl
    | 36 => rfl
    | 37 => rfl
    | 38 => rfl
    | 39 => rfl
    | 40 => rfl
    | 41 => rfl
    | 42 => rfl
    | 43 => rfl
    | 44 => rfl
    | 45 => rfl
    | 46 => rfl
    | 47 => rfl
    | 48 => rfl
    | 49 => rfl
    | 50 => rfl
    | 51 => rfl
    | 52 => rfl
    | 53 => rfl
    | 54 => rfl
    | 55 => rfl
    | 56 => rfl
    | 57 => rfl
    | 58 => rfl
    | 59 => rfl
    | 60 => rfl
    | 61 => rfl
    | 62 => rfl
    | 63 => rfl
    | 64 => rfl
    | 65 => rfl
    | 66 => rfl
    | 67 => rfl
    | 68 => rfl
    | 69 => rfl
    | 70 => rfl
    | q + 71 => rfl
  | q + 6, _ => rfl
theorem r_astW {X : Kx} {cc : ByteArray} {nL : Nat} {own : String} (hC : Cx X cc nL own) {a : Ax} {s : Sx} {lv : List (Nat × Value)} {st : List Value} {ce sl pc : Nat} {i : Int32} {p : Nat} (hp : p < s.2.2 4) (hip : i.toNatClampNeg = s.2.2 5) (hpp : p = s.2.2 5) (hi : vp_in i 8) (hd : decode cc pc = .ok (.aastore, 1)) (kk : ∀ s1, s1 = setN s 5 (s.2.2 5 + 1) → wk X a s1 nL (pc + 1) lv st ce sl) : wk X a s nL pc lv (.ref (adr X.G a 3 p) :: .int i :: .ref (adr X.G a 0 15) :: st) ce sl := k_astP hC (cnt := 5) (kd := 3) (ci := 9) (pick := a.2.2.1) 5 (fx_in f0_15) (fun m _ _ _ => rfl) rfl (wx_in hp) rfl rfl rfl hip hpp hi rfl (fun k j h ri rl => cx_W (fun t h1 h2 => by rcases (show t = 0 ∨ t = 1 ∨ t = 2 by omega) with rfl | rfl | rfl <;> first | exact absurd rfl h1 | rfl) k j ri rl h) hd (kk _ rfl)
theorem k_topi {X : Kx} {nL : Nat} {a : Ax} {s : Sx} {lv : List (Nat × Value)} {st : List Value} {ce sl pc : Nat} {x : Int32} (kk : ∀ y, y = x → wk X a s nL pc lv (.int y :: st) ce sl) : wk X a s nL pc lv (.int x :: st) ce sl := kk x rfl
theorem k_topl {X : Kx} {nL : Nat} {a : Ax} {s : Sx} {lv : List (Nat × Value)} {st : List Value} {ce sl pc : Nat} {x : Int64} (kk : ∀ y, y = x → wk X a s nL pc lv (.long y :: st) ce sl) : wk X a s nL pc lv (.long x :: st) ce sl := kk x rfl
theorem k_eqz {X : Kx} {nL : Nat} {a : Ax} {s : Sx} {lv : List (Nat × Value)} {st : List Value} {ce sl pc k j : Nat} (kk : wk X a s nL pc lv (.ref (adr X.G a k j) :: st) ce sl) : wk X a s nL pc lv (.ref (adr X.G a k (0 + j)) :: st) ce sl := by rw [Nat.zero_add]; exact kk
theorem k_rret0 {X : Kx} {cc : ByteArray} {nL : Nat} {own : String} {a : Ax} {s : Sx} {lv : List (Nat × Value)} {ce sl pc : Nat} (hC : Cx X cc nL own) {k j : Nat} {C : String} {post : Option Nat → Sx → Prop} (hQ : X.Q = MQ X.below (Qq X.G a k 0 post) X.av X.s ce sl (bs_ X.G)) (hr : X.meth.sig.returnType = some (.object C)) (hd : decode cc pc = .ok (.areturn, 1)) (h : post (some j) s) : wk X a s nL pc lv [.ref (adr X.G a k j)] ce sl := by have h2 := k_rret hC (lv := lv) hQ hr hd h; rw [Nat.zero_add] at h2; exact h2
theorem ts_out {x : Int32} {hi : Nat} (h : ∀ k : Nat, k ≤ hi → ¬ x = OfNat.ofNat k) : x.toInt < 0 ∨ (hi : Int) < x.toInt := by
  by_cases h0 : x.toInt < 0
  · exact Or.inl h0
  · by_cases h1 : (hi : Int) < x.toInt
    · exact Or.inr h1
    · exfalso
      refine h x.toInt.toNat (by omega) ?_
      apply Int32.toInt_inj.mp
      have : x.toInt < 2147483648 := x.toInt_lt
      show x.toInt = (Int32.ofNat x.toInt.toNat).toInt
      rw [Int32.toInt_ofNat_of_lt (by omega)]
      omega
theorem ts_out4 {x : Int32} (c0 : ¬ x = 0) (c1 : ¬ x = 1) (c2 : ¬ x = 2) (c3 : ¬ x = 3) : x.toInt < 0 ∨ 3 < x.toInt := ts_out (hi := 3) (fun k hk => by
  rcases (show k = 0 ∨ k = 1 ∨ k = 2 ∨ k = 3 by omega) with rfl | rfl | rfl | rfl
  · exact c0
  · exact c1
  · exact c2
  · exact c3)
theorem ts_out5 {x : Int32} (c0 : ¬ x = 0) (c1 : ¬ x = 1) (c2 : ¬ x = 2) (c3 : ¬ x = 3) (c4 : ¬ x = 4) : x.toInt < 0 ∨ 4 < x.toInt := ts_out (hi := 4) (fun k hk => by
  rcases (show k = 0 ∨ k = 1 ∨ k = 2 ∨ k = 3 ∨ k = 4 by omega) with rfl | rfl | rfl | rfl | rfl
  · exact c0
  · exact c1
  · exact c2
  · exact c3
  · exact c4)
theorem ts_out6 {x : Int32} (c0 : ¬ x = 0) (c1 : ¬ x = 1) (c2 : ¬ x = 2) (c3 : ¬ x = 3) (c4 : ¬ x = 4) (c5 : ¬ x = 5) : x.toInt < 0 ∨ 5 < x.toInt := ts_out (hi := 5) (fun k hk => by
  rcases (show k = 0 ∨ k = 1 ∨ k = 2 ∨ k = 3 ∨ k = 4 ∨ k = 5 by omega) with rfl | rfl | rfl | rfl | rfl | rfl
  · exact c0
  · exact c1
  · exact c2
  · exact c3
  · exact c4
  · exact c5)
theorem ts_out7 {x : Int32} (c0 : ¬ x = 0) (c1 : ¬ x = 1) (c2 : ¬ x = 2) (c3 : ¬ x = 3) (c4 : ¬ x = 4) (c5 : ¬ x = 5) (c6 : ¬ x = 6) : x.toInt < 0 ∨ 6 < x.toInt := ts_out (hi := 6) (fun k hk => by
  rcases (show k = 0 ∨ k = 1 ∨ k = 2 ∨ k = 3 ∨ k = 4 ∨ k = 5 ∨ k = 6 by omega) with rfl | rfl | rfl | rfl | rfl | rfl | rfl
  · exact c0
  · exact c1
  · exact c2
  · exact c3
  · exact c4
  · exact c5
  · exact c6)
theorem ts_out10 {x : Int32} (c0 : ¬ x = 0) (c1 : ¬ x = 1) (c2 : ¬ x = 2) (c3 : ¬ x = 3) (c4 : ¬ x = 4) (c5 : ¬ x = 5) (c6 : ¬ x = 6) (c7 : ¬ x = 7) (c8 : ¬ x = 8) (c9 : ¬ x = 9) : x.toInt < 0 ∨ 9 < x.toInt := ts_out (hi := 9) (fun k hk => by
  rcases (show k = 0 ∨ k = 1 ∨ k = 2 ∨ k = 3 ∨ k = 4 ∨ k = 5 ∨ k = 6 ∨ k = 7 ∨ k = 8 ∨ k = 9 by omega) with rfl | rfl | rfl | rfl | rfl | rfl | rfl | rfl | rfl | rfl
  · exact c0
  · exact c1
  · exact c2
  · exact c3
  · exact c4
  · exact c5
  · exact c6
  · exact c7
  · exact c8
  · exact c9)
theorem ts_out46 {x : Int32} (c0 : ¬ x = 0) (c1 : ¬ x = 1) (c2 : ¬ x = 2) (c3 : ¬ x = 3) (c4 : ¬ x = 4) (c5 : ¬ x = 5) (c6 : ¬ x = 6) (c7 : ¬ x = 7) (c8 : ¬ x = 8) (c9 : ¬ x = 9) (c10 : ¬ x = 10) (c11 : ¬ x = 11) (c12 : ¬ x = 12) (c13 : ¬ x = 13) (c14 : ¬ x = 14) (c15 : ¬ x = 15) (c16 : ¬ x = 16) (c17 : ¬ x = 17) (c18 : ¬ x = 18) (c19 : ¬ x = 19) (c20 : ¬ x = 20) (c21 : ¬ x = 21) (c22 : ¬ x = 22) (c23 : ¬ x = 23) (c24 : ¬ x = 24) (c25 : ¬ x = 25) (c26 : ¬ x = 26) (c27 : ¬ x = 27) (c28 : ¬ x = 28) (c29 : ¬ x = 29) (c30 : ¬ x = 30) (c31 : ¬ x = 31) (c32 : ¬ x = 32) (c33 : ¬ x = 33) (c34 : ¬ x = 34) (c35 : ¬ x = 35) (c36 : ¬ x = 36) (c37 : ¬ x = 37) (c38 : ¬ x = 38) (c39 : ¬ x = 39) (c40 : ¬ x = 40) (c41 : ¬ x = 41) (c42 : ¬ x = 42) (c43 : ¬ x = 43) (c44 : ¬ x = 44) (c45 : ¬ x = 45) : x.toInt < 0 ∨ 45 < x.toInt := ts_out (hi := 45) (fun k hk => by
  rcases (show k = 0 ∨ k = 1 ∨ k = 2 ∨ k = 3 ∨ k = 4 ∨ k = 5 ∨ k = 6 ∨ k = 7 ∨ k = 8 ∨ k = 9 ∨ k = 10 ∨ k = 11 ∨ k = 12 ∨ k = 13 ∨ k = 14 ∨ k = 15 ∨ k = 16 ∨ k = 17 ∨ k = 18 ∨ k = 19 ∨ k = 20 ∨ k = 21 ∨ k = 22 ∨ k = 23 ∨ k = 24 ∨ k = 25 ∨ k = 26 ∨ k = 27 ∨ k = 28 ∨ k = 29 ∨ k = 30 ∨ k = 31 ∨ k = 32 ∨ k = 33 ∨ k = 34 ∨ k = 35 ∨ k = 36 ∨ k = 37 ∨ k = 38 ∨ k = 39 ∨ k = 40 ∨ k = 41 ∨ k = 42 ∨ k = 43 ∨ k = 44 ∨ k = 45 by omega) with rfl | rfl | rfl | rfl | rfl | rfl | rfl | rfl | rfl | rfl | rfl | rfl | rfl | rfl | rfl | rfl | rfl | rfl | rfl | rfl | rfl | rfl | rfl | rfl | rfl | rfl | rfl | rfl | rfl | rfl | rfl | rfl | rfl | rfl | rfl | rfl | rfl | rfl | rfl | rfl | rfl | rfl | rfl | rfl | rfl | rfl
  · exact c0
  · exact c1
  · exact c2
  · exact c3
  · exact c4
  · exact c5
  · exact c6
  · exact c7
  · exact c8
  · exact c9
  · exact c10
  · exact c11
  · exact c12
  · exact c13
  · exact c14
  · exact c15
  · exact c16
  · exact c17
  · exact c18
  · exact c19
  · exact c20
  · exact c21
  · exact c22
  · exact c23
  · exact c24
  · exact c25
  · exact c26
  · exact c27
  · exact c28
  · exact c29
  · exact c30
  · exact c31
  · exact c32
  · exact c33
  · exact c34
  · exact c35
  · exact c36
  · exact c37
  · exact c38
  · exact c39
  · exact c40
  · exact c41
  · exact c42
  · exact c43
  · exact c44
  · exact c45)
theorem ls_outG {x : Int32} {k1 k2 : Int32} {o1 o2 d : Int} (h1 : ¬ x = k1) (h2 : ¬ x = k2) : Op.lookupswitch.offset [(k1.toInt, o1), (k2.toInt, o2)] d x.toInt = d := by
  have e1 : ¬ x.toInt = k1.toInt := fun e => h1 (Int32.toInt_inj.mp e)
  have e2 : ¬ x.toInt = k2.toInt := fun e => h2 (Int32.toInt_inj.mp e)
  simp [Op.lookupswitch.offset, e1, e2, Ne.symm e1, Ne.symm e2]
theorem lx_new {s : Sx} {kd cn : Nat} (h : kd = 1 ∧ cn = 0 ∨ kd = 2 ∧ cn = 2 ∨ kd = 3 ∧ cn = 4 ∨ kd = 4 ∧ cn = 6) : ∀ x ∈ lx_ (newD s kd cn).2.2, x ∈ lx_ s.2.2 ∨ x = (kd, s.2.2 cn) := by
  intro x hx
  rcases lx_cases hx with hx | ⟨p, hp, rfl⟩ | ⟨p, hp, rfl⟩ | ⟨p, hp, rfl⟩ | ⟨p, hp, rfl⟩
  · exact Or.inl (fx_in hx)
  · rcases h with ⟨rfl, rfl⟩ | ⟨rfl, rfl⟩ | ⟨rfl, rfl⟩ | ⟨rfl, rfl⟩ <;> first | exact Or.inl (px_in hp) | exact (Nat.lt_or_ge p (s.2.2 0)).elim (fun q => Or.inl (px_in q)) (fun q => Or.inr (by have h2 : p < s.2.2 0 + 1 := hp; rw [show p = s.2.2 0 by omega]))
  · rcases h with ⟨rfl, rfl⟩ | ⟨rfl, rfl⟩ | ⟨rfl, rfl⟩ | ⟨rfl, rfl⟩ <;> first | exact Or.inl (ox_in hp) | exact (Nat.lt_or_ge p (s.2.2 2)).elim (fun q => Or.inl (ox_in q)) (fun q => Or.inr (by have h2 : p < s.2.2 2 + 1 := hp; rw [show p = s.2.2 2 by omega]))
  · rcases h with ⟨rfl, rfl⟩ | ⟨rfl, rfl⟩ | ⟨rfl, rfl⟩ | ⟨rfl, rfl⟩ <;> first | exact Or.inl (wx_in hp) | exact (Nat.lt_or_ge p (s.2.2 4)).elim (fun q => Or.inl (wx_in q)) (fun q => Or.inr (by have h2 : p < s.2.2 4 + 1 := hp; rw [show p = s.2.2 4 by omega]))
  · rcases h with ⟨rfl, rfl⟩ | ⟨rfl, rfl⟩ | ⟨rfl, rfl⟩ | ⟨rfl, rfl⟩ <;> first | exact Or.inl (rx_in hp) | exact (Nat.lt_or_ge p (s.2.2 6)).elim (fun q => Or.inl (rx_in q)) (fun q => Or.inr (by have h2 : p < s.2.2 6 + 1 := hp; rw [show p = s.2.2 6 by omega]))
theorem r_newX6 {X : Kx} {cc : ByteArray} {nL : Nat} {own : String} (hC : Cx X cc nL own) {a : Ax} {s : Sx} {lv : List (Nat × Value)} {st : List Value} {ce sl pc : Nat} {ix : Nat} (hle : s.2.2 1 ≤ s.2.2 0) (hcl : Cond.classLink own ix RX6 ∈ gw) (hcells : ce + 1 ≤ X.R.cells) (hslots : sl + 5 ≤ X.R.slots) (hd : decode cc pc = .ok (.new ix, 3)) (kk : ∀ a1 : Ax, (∃ q, a1 = (va_up a.1 (s.2.2 0) q, a.2)) → ∀ s1, s1 = newD s 1 0 → wk X a1 s1 nL (pc + 3) lv (.ref (adr X.G a1 1 (s.2.2 0)) :: st) (ce + 1) (sl + 5)) : wk X a s nL pc lv st ce sl := by
  refine k_new hC inX6 tyX6 tyX6_ok hcl it_RX6 ii_RX6 (ci := 6) (kd := 1) (cn := 0) rfl (fs := [.int 0, .int 0, .int 0, .int 0, .int 0]) (fun j hj => ?_) hcells hslots (fun q => (va_up a.1 (s.2.2 0) q, a.2)) (lx_new (by decide)) ?_ ?_ hd (fun q => kk _ ⟨q, rfl⟩ _ rfl)
  · rcases (show j = 0 ∨ j = 1 ∨ j = 2 ∨ j = 3 ∨ j = 4 by omega) with rfl | rfl | rfl | rfl | rfl <;> rfl
  · intro q x hx
    have hpf : pfn (va_up a.1 (s.2.2 0) q, a.2) (newD s 1 0).2.2 = pfn a s.2.2 := funext (fun t => by
        match t with
        | 0 => exact funext (fun i => by
            show (if i < s.2.2 1 then some (va_up a.1 (s.2.2 0) q i) else none) = (if i < s.2.2 1 then some (a.1 i) else none)
            by_cases hi : i < s.2.2 1
            · rw [if_pos hi, if_pos hi]
              show some (if i = s.2.2 0 then q else a.1 i) = _
              rw [if_neg (by omega)]
            · rw [if_neg hi, if_neg hi])
        | 1 => rfl
        | tt + 2 => rfl)
    have hrow : ¬ (x.1 = 1 ∧ x.2 = s.2.2 0) := by
      rintro ⟨h1, h2⟩
      rcases lx_cases hx with h | ⟨p, hp, rfl⟩ | ⟨p, hp, rfl⟩ | ⟨p, hp, rfl⟩ | ⟨p, hp, rfl⟩
      · have := fxl_kinds h; omega
      all_goals (first | (exact absurd h1 (by decide)) | (have h3 : p = _ := h2; omega))
    have h1 : (newD s 1 0).1 x.1 x.2 = s.1 x.1 x.2 := if_neg hrow
    have h2 : adr X.G (va_up a.1 (s.2.2 0) q, a.2) x.1 x.2 = adr X.G a x.1 x.2 := by
      rcases lx_cases hx with h | ⟨p, hp, rfl⟩ | ⟨p, hp, rfl⟩ | ⟨p, hp, rfl⟩ | ⟨p, hp, rfl⟩
      · obtain ⟨k, j⟩ := x
        rcases fxl_kinds h with h | h | h <;> (simp only at h; subst h; rfl)
      all_goals (first | rfl | (show (if p = _ then q else _) = _; rw [if_neg (by omega)]; rfl))
    show (adr _ _ _ _, ctp _ (pfn _ _) _ _ _ _) = (adr _ _ _ _, ctp _ (pfn _ _) _ _ _ _)
    rw [hpf, h1, h2]
  · intro q
    have h1 : (newD s 1 0).1 1 (s.2.2 0) = fun _ => 0 := if_pos ⟨rfl, rfl⟩
    have h2 : adr X.G (va_up a.1 (s.2.2 0) q, a.2) 1 (s.2.2 0) = q := if_pos rfl
    rw [h1, h2]; rfl
theorem r_newX2 {X : Kx} {cc : ByteArray} {nL : Nat} {own : String} (hC : Cx X cc nL own) {a : Ax} {s : Sx} {lv : List (Nat × Value)} {st : List Value} {ce sl pc : Nat} {ix : Nat} (hle : s.2.2 3 ≤ s.2.2 2) (hcl : Cond.classLink own ix RX2 ∈ gw) (hcells : ce + 1 ≤ X.R.cells) (hslots : sl + 7 ≤ X.R.slots) (hd : decode cc pc = .ok (.new ix, 3)) (kk : ∀ a1 : Ax, (∃ q, a1 = (a.1, va_up a.2.1 (s.2.2 2) q, a.2.2)) → ∀ s1, s1 = newD s 2 2 → wk X a1 s1 nL (pc + 3) lv (.ref (adr X.G a1 2 (s.2.2 2)) :: st) (ce + 1) (sl + 7)) : wk X a s nL pc lv st ce sl := by
  refine k_new hC inX2 tyX2 tyX2_ok hcl it_RX2 ii_RX2 (ci := 2) (kd := 2) (cn := 2) rfl (fs := [.int 0, .int 0, .int 0, .int 0, .int 0, .int 0, .int 0]) (fun j hj => ?_) hcells hslots (fun q => (a.1, va_up a.2.1 (s.2.2 2) q, a.2.2)) (lx_new (by decide)) ?_ ?_ hd (fun q => kk _ ⟨q, rfl⟩ _ rfl)
  · rcases (show j = 0 ∨ j = 1 ∨ j = 2 ∨ j = 3 ∨ j = 4 ∨ j = 5 ∨ j = 6 by omega) with rfl | rfl | rfl | rfl | rfl | rfl | rfl <;> rfl
  · intro q x hx
    have hpf : pfn (a.1, va_up a.2.1 (s.2.2 2) q, a.2.2) (newD s 2 2).2.2 = pfn a s.2.2 := funext (fun t => by
        match t with
        | 0 => rfl
        | 1 => exact funext (fun i => by
            show (if i < s.2.2 3 then some (va_up a.2.1 (s.2.2 2) q i) else none) = (if i < s.2.2 3 then some (a.2.1 i) else none)
            by_cases hi : i < s.2.2 3
            · rw [if_pos hi, if_pos hi]
              show some (if i = s.2.2 2 then q else a.2.1 i) = _
              rw [if_neg (by omega)]
            · rw [if_neg hi, if_neg hi])
        | tt + 2 => rfl)
    have hrow : ¬ (x.1 = 2 ∧ x.2 = s.2.2 2) := by
      rintro ⟨h1, h2⟩
      rcases lx_cases hx with h | ⟨p, hp, rfl⟩ | ⟨p, hp, rfl⟩ | ⟨p, hp, rfl⟩ | ⟨p, hp, rfl⟩
      · have := fxl_kinds h; omega
      all_goals (first | (exact absurd h1 (by decide)) | (have h3 : p = _ := h2; omega))
    have h1 : (newD s 2 2).1 x.1 x.2 = s.1 x.1 x.2 := if_neg hrow
    have h2 : adr X.G (a.1, va_up a.2.1 (s.2.2 2) q, a.2.2) x.1 x.2 = adr X.G a x.1 x.2 := by
      rcases lx_cases hx with h | ⟨p, hp, rfl⟩ | ⟨p, hp, rfl⟩ | ⟨p, hp, rfl⟩ | ⟨p, hp, rfl⟩
      · obtain ⟨k, j⟩ := x
        rcases fxl_kinds h with h | h | h <;> (simp only at h; subst h; rfl)
      all_goals (first | rfl | (show (if p = _ then q else _) = _; rw [if_neg (by omega)]; rfl))
    show (adr _ _ _ _, ctp _ (pfn _ _) _ _ _ _) = (adr _ _ _ _, ctp _ (pfn _ _) _ _ _ _)
    rw [hpf, h1, h2]
  · intro q
    have h1 : (newD s 2 2).1 2 (s.2.2 2) = fun _ => 0 := if_pos ⟨rfl, rfl⟩
    have h2 : adr X.G (a.1, va_up a.2.1 (s.2.2 2) q, a.2.2) 2 (s.2.2 2) = q := if_pos rfl
    rw [h1, h2]; rfl
theorem r_newX9 {X : Kx} {cc : ByteArray} {nL : Nat} {own : String} (hC : Cx X cc nL own) {a : Ax} {s : Sx} {lv : List (Nat × Value)} {st : List Value} {ce sl pc : Nat} {ix : Nat} (hle : s.2.2 5 ≤ s.2.2 4) (hcl : Cond.classLink own ix RX9 ∈ gw) (hcells : ce + 1 ≤ X.R.cells) (hslots : sl + 8 ≤ X.R.slots) (hd : decode cc pc = .ok (.new ix, 3)) (kk : ∀ a1 : Ax, (∃ q, a1 = (a.1, a.2.1, va_up a.2.2.1 (s.2.2 4) q, a.2.2.2)) → ∀ s1, s1 = newD s 3 4 → wk X a1 s1 nL (pc + 3) lv (.ref (adr X.G a1 3 (s.2.2 4)) :: st) (ce + 1) (sl + 8)) : wk X a s nL pc lv st ce sl := by
  refine k_new hC inX9 tyX9 tyX9_ok hcl it_RX9 ii_RX9 (ci := 9) (kd := 3) (cn := 4) rfl (fs := [.int 0, .int 0, .int 0, .int 0, .int 0, .int 0, .int 0, .int 0]) (fun j hj => ?_) hcells hslots (fun q => (a.1, a.2.1, va_up a.2.2.1 (s.2.2 4) q, a.2.2.2)) (lx_new (by decide)) ?_ ?_ hd (fun q => kk _ ⟨q, rfl⟩ _ rfl)
  · rcases (show j = 0 ∨ j = 1 ∨ j = 2 ∨ j = 3 ∨ j = 4 ∨ j = 5 ∨ j = 6 ∨ j = 7 by omega) with rfl | rfl | rfl | rfl | rfl | rfl | rfl | rfl <;> rfl
  · intro q x hx
    have hpf : pfn (a.1, a.2.1, va_up a.2.2.1 (s.2.2 4) q, a.2.2.2) (newD s 3 4).2.2 = pfn a s.2.2 := funext (fun t => by
        match t with
        | 0 => rfl
        | 1 => rfl
        | tt + 2 => exact funext (fun i => by
            show (if i < s.2.2 5 then some (va_up a.2.2.1 (s.2.2 4) q i) else none) = (if i < s.2.2 5 then some (a.2.2.1 i) else none)
            by_cases hi : i < s.2.2 5
            · rw [if_pos hi, if_pos hi]
              show some (if i = s.2.2 4 then q else a.2.2.1 i) = _
              rw [if_neg (by omega)]
            · rw [if_neg hi, if_neg hi]))
    have hrow : ¬ (x.1 = 3 ∧ x.2 = s.2.2 4) := by
      rintro ⟨h1, h2⟩
      rcases lx_cases hx with h | ⟨p, hp, rfl⟩ | ⟨p, hp, rfl⟩ | ⟨p, hp, rfl⟩ | ⟨p, hp, rfl⟩
      · have := fxl_kinds h; omega
      all_goals (first | (exact absurd h1 (by decide)) | (have h3 : p = _ := h2; omega))
    have h1 : (newD s 3 4).1 x.1 x.2 = s.1 x.1 x.2 := if_neg hrow
    have h2 : adr X.G (a.1, a.2.1, va_up a.2.2.1 (s.2.2 4) q, a.2.2.2) x.1 x.2 = adr X.G a x.1 x.2 := by
      rcases lx_cases hx with h | ⟨p, hp, rfl⟩ | ⟨p, hp, rfl⟩ | ⟨p, hp, rfl⟩ | ⟨p, hp, rfl⟩
      · obtain ⟨k, j⟩ := x
        rcases fxl_kinds h with h | h | h <;> (simp only at h; subst h; rfl)
      all_goals (first | rfl | (show (if p = _ then q else _) = _; rw [if_neg (by omega)]; rfl))
    show (adr _ _ _ _, ctp _ (pfn _ _) _ _ _ _) = (adr _ _ _ _, ctp _ (pfn _ _) _ _ _ _)
    rw [hpf, h1, h2]
  · intro q
    have h1 : (newD s 3 4).1 3 (s.2.2 4) = fun _ => 0 := if_pos ⟨rfl, rfl⟩
    have h2 : adr X.G (a.1, a.2.1, va_up a.2.2.1 (s.2.2 4) q, a.2.2.2) 3 (s.2.2 4) = q := if_pos rfl
    rw [h1, h2]; rfl
theorem r_newX3 {X : Kx} {cc : ByteArray} {nL : Nat} {own : String} (hC : Cx X cc nL own) {a : Ax} {s : Sx} {lv : List (Nat × Value)} {st : List Value} {ce sl pc : Nat} {ix : Nat} (hcl : Cond.classLink own ix RX3 ∈ gw) (hcells : ce + 1 ≤ X.R.cells) (hslots : sl + 12 ≤ X.R.slots) (hd : decode cc pc = .ok (.new ix, 3)) (kk : ∀ a1 : Ax, (∃ q, a1 = (a.1, a.2.1, a.2.2.1, va_up a.2.2.2 (s.2.2 6) q)) → ∀ s1, s1 = newD s 4 6 → wk X a1 s1 nL (pc + 3) lv (.ref (adr X.G a1 4 (s.2.2 6)) :: st) (ce + 1) (sl + 12)) : wk X a s nL pc lv st ce sl := by
  refine k_new hC inX3 tyX3 tyX3_ok hcl it_RX3 ii_RX3 (ci := 3) (kd := 4) (cn := 6) rfl (fs := [.null, .int 0, .int 0, .int 0, .int 0, .int 0, .int 0, .int 0, .int 0, .int 0, .int 0, .int 0]) (fun j hj => ?_) hcells hslots (fun q => (a.1, a.2.1, a.2.2.1, va_up a.2.2.2 (s.2.2 6) q)) (lx_new (by decide)) ?_ ?_ hd (fun q => kk _ ⟨q, rfl⟩ _ rfl)
  · rcases (show j = 0 ∨ j = 1 ∨ j = 2 ∨ j = 3 ∨ j = 4 ∨ j = 5 ∨ j = 6 ∨ j = 7 ∨ j = 8 ∨ j = 9 ∨ j = 10 ∨ j = 11 by omega) with rfl | rfl | rfl | rfl | rfl | rfl | rfl | rfl | rfl | rfl | rfl | rfl <;> rfl
  · intro q x hx
    have hpf : pfn (a.1, a.2.1, a.2.2.1, va_up a.2.2.2 (s.2.2 6) q) (newD s 4 6).2.2 = pfn a s.2.2 := rfl
    have hrow : ¬ (x.1 = 4 ∧ x.2 = s.2.2 6) := by
      rintro ⟨h1, h2⟩
      rcases lx_cases hx with h | ⟨p, hp, rfl⟩ | ⟨p, hp, rfl⟩ | ⟨p, hp, rfl⟩ | ⟨p, hp, rfl⟩
      · have := fxl_kinds h; omega
      all_goals (first | (exact absurd h1 (by decide)) | (have h3 : p = _ := h2; omega))
    have h1 : (newD s 4 6).1 x.1 x.2 = s.1 x.1 x.2 := if_neg hrow
    have h2 : adr X.G (a.1, a.2.1, a.2.2.1, va_up a.2.2.2 (s.2.2 6) q) x.1 x.2 = adr X.G a x.1 x.2 := by
      rcases lx_cases hx with h | ⟨p, hp, rfl⟩ | ⟨p, hp, rfl⟩ | ⟨p, hp, rfl⟩ | ⟨p, hp, rfl⟩
      · obtain ⟨k, j⟩ := x
        rcases fxl_kinds h with h | h | h <;> (simp only at h; subst h; rfl)
      all_goals (first | rfl | (show (if p = _ then q else _) = _; rw [if_neg (by omega)]; rfl))
    show (adr _ _ _ _, ctp _ (pfn _ _) _ _ _ _) = (adr _ _ _ _, ctp _ (pfn _ _) _ _ _ _)
    rw [hpf, h1, h2]
  · intro q
    have h1 : (newD s 4 6).1 4 (s.2.2 6) = fun _ => 0 := if_pos ⟨rfl, rfl⟩
    have h2 : adr X.G (a.1, a.2.1, a.2.2.1, va_up a.2.2.2 (s.2.2 6) q) 4 (s.2.2 6) = q := if_pos rfl
    rw [h1, h2]; rfl
