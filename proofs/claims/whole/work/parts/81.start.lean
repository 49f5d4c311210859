/-! the start, and the law's walk -/
theorem al_z {hi : Int32} (h : (0 : Int32) ≤ hi) : al z0 0 hi := fun i => ⟨(by decide : (0 : Int32) ≤ 0), h⟩
theorem wi_d {x lo hi : Int32} (h : lo ≤ x ∧ x ≤ hi) : wi x lo hi := h
theorem i0_C : IC s0_ := ⟨rfl, wi_d (by decide +kernel), rfl, rfl, rfl, rfl, al_z (by decide), al_z (by decide), al_z (by decide), al_z (by decide), fun i _ => rfl⟩
theorem i0_M : IM s0_ := ⟨rfl, wi_d (by decide +kernel)⟩
theorem i0_P : IP s0_ := ⟨rfl, rfl, rfl, by decide +kernel, fun p h => absurd h (Nat.not_lt_zero p), fun p q h _ _ => absurd h (Nat.not_lt_zero p)⟩
theorem i0_Z : IZ s0_ := ⟨rfl, rfl⟩
theorem i0_R : IR s0_ := ⟨rfl, rfl, rfl, by decide +kernel, fun p h => absurd h (Nat.not_lt_zero p), rfl, al_z (by decide)⟩
theorem i0_Y : IY s0_ := ⟨rfl, al_u (al_u (al_u (al_z (by decide)) (wi_d (by decide))) (wi_d (by decide))) (wi_d (by decide)), by decide +kernel, by decide +kernel, wi_d (by decide +kernel), wi_d (by decide +kernel), by decide +kernel, wi_d (by decide +kernel), rfl, rfl, rfl, al_z (by decide)⟩
theorem i0_W : IW 0 s0_ := ⟨rfl, rfl, rfl, by decide +kernel, fun p h => absurd h (Nat.not_lt_zero p), rfl, al_z (by decide), by decide +kernel, wi_d (by decide +kernel), by decide +kernel, by decide +kernel, by decide +kernel, rfl, rfl, al_u (al_u (al_u (al_u (al_u (al_z (by decide)) (wi_d (by decide))) (wi_d (by decide))) (wi_d (by decide))) (wi_d (by decide))) (wi_d (by decide)), by
  show ∀ i, i < 5 → (1 : Int32) ≤ s0_.1 0 18 i ∧ s0_.1 0 18 i ≤ 99
  decide +kernel⟩
theorem i0_T : IT s0_ := ⟨rfl, wi_d (by decide +kernel), rfl, rfl, rfl, rfl, al_z (by decide), al_z (by decide), al_z (by decide), al_z (by decide), by
  show ∀ i, i < 24 → s0_.1 0 24 i = s0_.1 5 49 i ∧ (0 : Int32) ≤ s0_.1 0 24 i ∧ s0_.1 0 24 i ≤ 100
  decide +kernel⟩
theorem i0_F : IF s0_ := ⟨rfl, wi_d (by decide +kernel), rfl, rfl, rfl, rfl, al_z (by decide), al_z (by decide), al_z (by decide), al_z (by decide), fun i h => by
  have e : (s0_.1 0 25 4).toNatClampNeg = 0 := by decide +kernel
  rw [e] at h
  omega⟩
theorem i0_L : IL s0_ := ⟨rfl, wi_d (by decide +kernel), rfl, rfl, rfl, rfl, al_z (by decide), al_z (by decide), al_z (by decide), al_z (by decide)⟩
theorem i0_S : IS s0_ := ⟨⟨Or.inl ⟨by decide +kernel, by decide +kernel⟩, fun i _ => rfl⟩, ⟨Or.inl ⟨by decide +kernel, by decide +kernel⟩, fun i _ => rfl⟩, ⟨Or.inl ⟨by decide +kernel, by decide +kernel⟩, fun i _ => rfl⟩, ⟨Or.inl ⟨by decide +kernel, by decide +kernel⟩, fun i _ => rfl⟩⟩
theorem inv_0 : Inv 0 s0_ := ⟨i0_C, i0_M, i0_P, i0_Z, i0_R, i0_Y, i0_W, i0_T, i0_F, i0_L, i0_S⟩
theorem hc_ : HC := fun hN hk hI x1 P hP => cs_call hN hk hI x1 P hP
theorem h_main (L : Nat) (xs : Nat → Int32) (hL : L ≤ 3072) : w_L_law_18 20000 L xs 600 s0_ 0 := law_loop hc_ (Nat.le_refl _) hL 512 0 0 600 s0_ (by omega) (by decide) (by decide) (by decide) inv_0
