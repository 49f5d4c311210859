theorem wc_wk {X X2 : Kx} {A : Nat → Prop} {ws : va_W} {a : Ax} {s : Sx} {nL pc : Nat} {lv : List (Nat × Value)} {st : List Value} {ce sl : Nat} {G : Gx} (hX : X2 = (X.1, X.2.1, X.2.2.1, X.R, X.s, X.m, X.av, X.below, X.meth, X.c, X.Q, G)) (hA : A = bs_ G) (hF : ∀ H, va_P (X.G.1, X.G.2.1) cls_ ws H → va_D A ws → FW G a s H) (k : wk X2 a s nL pc lv st ce sl) : wc X A ws nL pc lv st ce sl := by
  subst hX hA
  exact fun H locs ls hP hD hS hl => k H locs ls (hF H hP hD) hS hl
theorem fin13 {s : State} (P : Nat → vw_C → ClassId → (Nat → Nat) → Prop) (h : ∀ (k : Nat) (q : vw_C), cls_[k]? = some q → ∃ c i, P k q c i) : ∃ (dC : Nat → ClassId) (dI : Nat → Nat → Nat), ∀ (k : Nat) (q : vw_C), cls_[k]? = some q → P k q (dC k) (dI k) := by
  have h2 : ∀ k, ∃ c i, ∀ q, cls_[k]? = some q → P k q c i := by
    intro k
    cases hq : cls_[k]? with
    | none => exact ⟨0, fun _ => 0, fun q h => by cases h⟩
    | some q =>
      obtain ⟨c, i, hp⟩ := h k q hq
      exact ⟨c, i, fun q' h' => by cases h'; exact hp⟩
  exact ⟨fun k => Classical.choose (h2 k), fun k => Classical.choose (Classical.choose_spec (h2 k)), fun k q hq => Classical.choose_spec (Classical.choose_spec (h2 k)) q hq⟩
theorem arr_ok {av : Array Value} {s : State} {ty : FieldType} (hty : ∀ C, ty ≠ .object C) (h : (Cond.arrayClass ty).before av s = true) : ∃ cA : ClassId, ArrOfT s cA ty ∧ va_RA s cA ty := by
  obtain ⟨c, k, comp, h1, h2, h3⟩ := Cond.arrayClass_spec h
  refine ⟨c, fun n z => ⟨fun k h => (by cases h), k, h2, comp, h3⟩, ?_⟩
  cases ty with
  | object C => exact absurd rfl (hty C)
  | _ => exact h1
theorem arr_ov {s : State} {C : String} (h : va_AO C s) : ∃ cA : ClassId, ArrOfT s cA (.object C) ∧ va_RA s cA (.object C) := by
  obtain ⟨comp, c, k, h1, h2, h3, h4, h5⟩ := Cond.arrayOver_spec h
  exact ⟨c, fun n z => ⟨fun k h => (by cases h), k, h3, comp, h4⟩, k, comp, h3, h4, h1, h5⟩
set_option maxRecDepth 100000 in
set_option maxHeartbeats 8000000 in
/-- THE LAW from its entry, over what the calls say of the numbers alone -/
theorem whole_open {N n : Nat} (hn : n ≤ 600) (hmain : ∀ (L : Nat) (xs : Nat → Int32), L ≤ 3072 → w_L_law_18 N L xs n s0_ 0) {p : Program} {e : Env} {s : State} {m : MethodId} {below : List Frame} {meth : Method} {c : Code} (l : Launch) {b L : Nat} {xs : Nat → Int32} (hL : L ≤ 3072) (C0 : lw_At p s m meth c b L xs) : W p l e room_1 s m #[Value.ref b] below meth c s.heap [] 0 0 (lw_Z below #[Value.ref b] s) (entryFrame m ([Value.ref b] : List Value).toArray 4) := by
  obtain ⟨hx, hb, hr, hml, hown, hts, hX, hbl, hlocks, hgv⟩ := id C0
  have hgw := gw_hts hts
  have hkn : ∀ (k : Nat) (q : vw_C), cls_[k]? = some q → ∃ c i, u_Kn s q.1 q.2.1 q.2.2 c i := by
    intro k q hq
    match k, hq with
    | 0, hq => cases hq; obtain ⟨c, i, h⟩ := u_known (C := RX0) (T := TX0) (N := 5) (n := 5) hgw inX0 (hgw _ it_RX0); exact ⟨c, i, h⟩
    | 1, hq => cases hq; obtain ⟨c, i, h⟩ := u_known (C := RX1) (T := TX1) (N := 9) (n := 9) hgw inX1 (hgw _ it_RX1); exact ⟨c, i, h⟩
    | 2, hq => cases hq; obtain ⟨c, i, h⟩ := u_known (C := RX2) (T := TX2) (N := 7) (n := 7) hgw inX2 (hgw _ it_RX2); exact ⟨c, i, h⟩
    | 3, hq => cases hq; obtain ⟨c, i, h⟩ := u_known (C := RX3) (T := TX3) (N := 12) (n := 12) hgw inX3 (hgw _ it_RX3); exact ⟨c, i, h⟩
    | 4, hq => cases hq; obtain ⟨c, i, h⟩ := u_known (C := RX4) (T := TX4) (N := 7) (n := 7) hgw inX4 (hgw _ it_RX4); exact ⟨c, i, h⟩
    | 5, hq => cases hq; obtain ⟨c, i, h⟩ := u_known (C := RX5) (T := TX5) (N := 7) (n := 7) hgw inX5 (hgw _ it_RX5); exact ⟨c, i, h⟩
    | 6, hq => cases hq; obtain ⟨c, i, h⟩ := u_known (C := RX6) (T := TX6) (N := 5) (n := 5) hgw inX6 (hgw _ it_RX6); exact ⟨c, i, h⟩
    | 7, hq => cases hq; obtain ⟨c, i, h⟩ := u_known (C := RX7) (T := TX7) (N := 3) (n := 3) hgw inX7 (hgw _ it_RX7); exact ⟨c, i, h⟩
    | 8, hq => cases hq; obtain ⟨c, i, h⟩ := u_known (C := RX8) (T := TX8) (N := 6) (n := 6) hgw inX8 (hgw _ it_RX8); exact ⟨c, i, h⟩
    | 9, hq => cases hq; obtain ⟨c, i, h⟩ := u_known (C := RX9) (T := TX9) (N := 8) (n := 8) hgw inX9 (hgw _ it_RX9); exact ⟨c, i, h⟩
    | 10, hq => cases hq; obtain ⟨c, i, h⟩ := u_known (C := RX10) (T := TX10) (N := 7) (n := 7) hgw inX10 (hgw _ it_RX10); exact ⟨c, i, h⟩
    | 11, hq => cases hq; obtain ⟨c, i, h⟩ := u_known (C := RX11) (T := TX11) (N := 15) (n := 15) hgw inX11 (hgw _ it_RX11); exact ⟨c, i, h⟩
    | 12, hq => cases hq; obtain ⟨c, i, h⟩ := u_known (C := RX12) (T := TX12) (N := 71) (n := 71) hgw inX12 (hgw _ it_RX12); exact ⟨c, i, h⟩
    | k + 13, hq => cases hq
  obtain ⟨dC, dI, hKc⟩ := fin13 (s := s) (fun _ q c i => u_Kn s q.1 q.2.1 q.2.2 c i) hkn
  have hov : ∀ C, Cond.arrayOver (.object C) ∈ lw_tbl → va_AO C s := fun C h => va_AO.of (hts _ h)
  obtain ⟨c0, a0⟩ := arr_ok (fun _ h => by cases h) (hgw _ ac_int)
  obtain ⟨c1, a1⟩ := arr_ok (fun _ h => by cases h) (hgw _ ac_long)
  obtain ⟨c2, a2⟩ := arr_ok (fun _ h => by cases h) (hgw _ ac_boolean)
  have o3 := hov _ ao_RX6
  have o4 := hov _ ao_RX2
  have o5 := hov _ ao_RX9
  have o6 := hov _ ao_RX7
  obtain ⟨c3, a3⟩ := arr_ov o3
  obtain ⟨c4, a4⟩ := arr_ov o4
  obtain ⟨c5, a5⟩ := arr_ov o5
  obtain ⟨c6, a6⟩ := arr_ov o6
  obtain ⟨G, hG⟩ : ∃ G : Gx, G = (dC, dI, (fun k => match k with | 0 => c0 | 1 => c1 | 2 => c2 | 3 => c3 | 4 => c4 | 5 => c5 | _ => c6), fun _ _ => 0, s.heap.size) := ⟨_, rfl⟩
  have hbase : G.2.2.2.2 = s.heap.size := by rw [hG]
  have hK : va_K (G.1, G.2.1) cls_ (tys_ G) s := by
    refine ⟨by rw [hG]; exact hKc, fun k q hk => ?_⟩
    subst hG
    match k, hk with
    | 0, hk => cases hk; exact a0
    | 1, hk => cases hk; exact a1
    | 2, hk => cases hk; exact a2
    | 3, hk => cases hk; exact a3
    | 4, hk => cases hk; exact a4
    | 5, hk => cases hk; exact a5
    | 6, hk => cases hk; exact a6
    | k + 7, hk => cases hk
  have hN : nw_ s := fun w hw => va_Nw.of (by obtain ⟨a, i, y, g, rfl⟩ := nwl_is w hw; rfl) (hts w (nwl_in w hw))
  have hKU : KU G s := ⟨hK, hN, o3, o4, o5, o6⟩
  clear hG
  obtain ⟨X, hXd⟩ : ∃ X : Kx, X = (p, l, e, room_1, s, m, #[Value.ref b], below, meth, c, lw_Z below #[Value.ref b] s, G) := ⟨_, rfl⟩
  have hXG : X.G = G := by rw [hXd]
  have hC : Dx X cL_law 4 RL (bs_ G) := by rw [hXd]; exact ⟨hx, hb, hml, hown, hgw, hKU, fun q h => by show G.2.2.2.2 ≤ q; rw [hbase]; exact h, hlocks⟩
  have hR : X.R = room_1 := by rw [hXd]
  have key : wc X (bs_ G) [] 4 0 [(0, .ref b)] [] 0 0 := by
    refine e_new hC (pc := 0) inX11 tyX11 tyX11_ok cl_RL_7 it_RX11 ii_RX11 (ci := 11) rfl (fs := [.null, .int 0, .null, .int 0, .int 0, .null, .null, .int 0, .null, .null, .null, .null, .null, .null, .int 0]) (fun j hj => by rcases (show j = 0 ∨ j = 1 ∨ j = 2 ∨ j = 3 ∨ j = 4 ∨ j = 5 ∨ j = 6 ∨ j = 7 ∨ j = 8 ∨ j = 9 ∨ j = 10 ∨ j = 11 ∨ j = 12 ∨ j = 13 ∨ j = 14 by omega) with rfl | rfl | rfl | rfl | rfl | rfl | rfl | rfl | rfl | rfl | rfl | rfl | rfl | rfl | rfl <;> rfl) (by rw [hR]; decide) (by rw [hR]; decide) dL_law_0 (fun o1 => ?_)
    refine e_ws [(o1, .inr (11, [.null, .int 0, .null, .int 0, .int 0, .null, .null, .int 0, .null, .null, .null, .null, .null, .null, .int 0]))] rfl ?_
    refine e_dup hC (pc := 3) dL_law_3 rfl ?_
    refine e_callI hC (pc := 4) (As := []) (rest := [.ref o1]) (wr := []) ca_X11_init rfl ml_RL_9 im_X11_init (con_X11_init o1) (by rw [hR]; exact ⟨rfl, rfl, by decide, by decide⟩) rfl (Nat.le_of_ble_eq_true rfl) dL_law_4 ⟨by rw [hR]; decide, by rw [hR]; decide⟩ 0 [] rfl rfl (by decide) (by decide) (fun q => ?_)
    refine e_astore_n hC (pc := 7) dL_law_7 [(1, .ref o1), (0, .ref b)] (by decide) rfl ?_
    refine e_new hC (pc := 8) inX12 tyX12 tyX12_ok cl_RL_10 it_RX12 ii_RX12 (ci := 12) rfl (fs := [.int 0, .int 0, .null, .null, .null, .int 0, .null, .null, .null, .int 0, .int 0, .null, .null, .null, .null, .null, .int 0, .null, .null, .null, .null, .null, .null, .null, .null, .int 0, .int 0, .int 0, .null, .int 0, .int 0, .int 0, .null, .null, .null, .int 0, .null, .null, .null, .null, .null, .null, .null, .null, .null, .int 0, .int 0, .null, .null, .null, .int 0, .null, .null, .null, .null, .int 0, .null, .null, .null, .null, .null, .null, .null, .int 0, .null, .null, .null, .null, .null, .null, .null]) (fun j hj => by rcases (show j = 0 ∨ j = 1 ∨ j = 2 ∨ j = 3 ∨ j = 4 ∨ j = 5 ∨ j = 6 ∨ j = 7 ∨ j = 8 ∨ j = 9 ∨ j = 10 ∨ j = 11 ∨ j = 12 ∨ j = 13 ∨ j = 14 ∨ j = 15 ∨ j = 16 ∨ j = 17 ∨ j = 18 ∨ j = 19 ∨ j = 20 ∨ j = 21 ∨ j = 22 ∨ j = 23 ∨ j = 24 ∨ j = 25 ∨ j = 26 ∨ j = 27 ∨ j = 28 ∨ j = 29 ∨ j = 30 ∨ j = 31 ∨ j = 32 ∨ j = 33 ∨ j = 34 ∨ j = 35 ∨ j = 36 ∨ j = 37 ∨ j = 38 ∨ j = 39 ∨ j = 40 ∨ j = 41 ∨ j = 42 ∨ j = 43 ∨ j = 44 ∨ j = 45 ∨ j = 46 ∨ j = 47 ∨ j = 48 ∨ j = 49 ∨ j = 50 ∨ j = 51 ∨ j = 52 ∨ j = 53 ∨ j = 54 ∨ j = 55 ∨ j = 56 ∨ j = 57 ∨ j = 58 ∨ j = 59 ∨ j = 60 ∨ j = 61 ∨ j = 62 ∨ j = 63 ∨ j = 64 ∨ j = 65 ∨ j = 66 ∨ j = 67 ∨ j = 68 ∨ j = 69 ∨ j = 70 by omega) with rfl | rfl | rfl | rfl | rfl | rfl | rfl | rfl | rfl | rfl | rfl | rfl | rfl | rfl | rfl | rfl | rfl | rfl | rfl | rfl | rfl | rfl | rfl | rfl | rfl | rfl | rfl | rfl | rfl | rfl | rfl | rfl | rfl | rfl | rfl | rfl | rfl | rfl | rfl | rfl | rfl | rfl | rfl | rfl | rfl | rfl | rfl | rfl | rfl | rfl | rfl | rfl | rfl | rfl | rfl | rfl | rfl | rfl | rfl | rfl | rfl | rfl | rfl | rfl | rfl | rfl | rfl | rfl | rfl | rfl | rfl <;> rfl) (by rw [hR]; decide) (by rw [hR]; decide) dL_law_8 (fun o2 => ?_)
    refine e_dup hC (pc := 11) dL_law_11 rfl ?_
    refine e_callI hC (pc := 12) (As := []) (rest := [.ref o2]) (wr := out_X11_init X.G o1 q) (b := o2) (e0 := .inr (12, [.int 0, .int 0, .null, .null, .null, .int 0, .null, .null, .null, .int 0, .int 0, .null, .null, .null, .null, .null, .int 0, .null, .null, .null, .null, .null, .null, .null, .null, .int 0, .int 0, .int 0, .null, .int 0, .int 0, .int 0, .null, .null, .null, .int 0, .null, .null, .null, .null, .null, .null, .null, .null, .null, .int 0, .int 0, .null, .null, .null, .int 0, .null, .null, .null, .null, .int 0, .null, .null, .null, .null, .null, .null, .null, .int 0, .null, .null, .null, .null, .null, .null, .null])) ca_X12_init rfl ml_RL_12 im_X12_init (con_X12_init o2) (by rw [hR]; exact ⟨rfl, rfl, by decide, by decide⟩) rfl (Nat.le_of_ble_eq_true rfl) dL_law_12 ⟨by rw [hR]; decide, by rw [hR]; decide⟩ 50 (List.range 50) rfl rfl (by decide) (by decide) (fun r => ?_)
    refine e_astore_n hC (pc := 15) dL_law_15 [(2, .ref o2), (1, .ref o1), (0, .ref b)] (by decide) rfl ?_
    refine e_iconst hC (pc := 16) (v := 0) dL_law_16 ic_0 ?_
    refine e_istore_n hC (pc := 17) dL_law_17 [(3, .int 0), (2, .ref o2), (1, .ref o1), (0, .ref b)] (by decide) rfl ?_
    refine e_sub [(0, .ref b), (1, .ref o1), (2, .ref o2), (3, .int 0)] [3, 2, 1, 0] rfl ?_
    obtain ⟨a, -⟩ : ∃ a : Ax, True := ⟨(fun _ => 0, fun _ => 0, fun _ => 0, fun _ => 0), trivial⟩
    refine wc_wk (X2 := (p, l, e, room_1, s, m, #[Value.ref b], below, meth, c, lw_Z below #[Value.ref b] s, (G.1, G.2.1, G.2.2.1, af_ o1 q o2 r, G.2.2.2.2))) (a := a) (s := s0_) (G := (G.1, G.2.1, G.2.2.1, af_ o1 q o2 r, G.2.2.2.2)) (by rw [hXd]) rfl (fun H hP hD => fw_start rfl (by rw [hXG] at hP; exact hP) (by rw [hXG] at hD; exact hD)) ?_
    refine b_L_law_18 (N := N) (L := L) (b := b) (xs := xs) ⟨hx, hb, hml, hown, hgw, hK, hN, Nat.le_of_eq hbase, hlocks⟩ rfl rfl hr ⟨hX, hbl, hbase, rfl⟩ n a s0_ 0 _ _ ?_ ?_ (hmain L xs hL)
    · show _ + 2 * n ≤ 600000
      omega
    · show _ + 19 * n ≤ 7302250
      omega
  have hl := lv_entry ([.ref b]) (n := 4) (Nat.le_of_ble_eq_true rfl)
  rw [lg_entry_eq]
  subst hXd
  exact key s.heap [] _ (fun k q h => by cases h) ⟨fun i j p q h => (by cases h), fun k q h => (by cases h)⟩ va_S.rf hl
