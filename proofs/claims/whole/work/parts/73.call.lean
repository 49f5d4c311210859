/-! the best call: the reference -/
theorem ls_n {s : Sx} (hF : IF s) (cnt nfi x : Nat) : ∀ f, ls s cnt nfi x f = nI (lgn s cnt (dg (nfi + 1) cnt x) f)
  | 0 => rfl
  | f + 1 => by
    show ls s cnt nfi x f + s.1 0 29 f * nI (hx s cnt nfi x f) = nI (lgn s cnt (dg (nfi + 1) cnt x) f + spn s f * hg s cnt f (fun c => dg (nfi + 1) cnt x c = f + 1))
    rw [ls_n hF cnt nfi x f, (sp_e hF f).1, pk_mul, nI_add]
    rfl
theorem hh_eq {N cnt : Nat} {a : Nat → Nat} {s T : Sx} {post : Int32 → Sx → Prop} (hN : 20000 ≤ N) (hC : IC s) (hc7 : cnt ≤ 7) (ec : T.1 6 0 5 = nI cnt) (e60 : T.1 5 60 = s.1 5 60) (h61 : ∀ c, c < cnt → T.1 5 61 c = nI (a c)) (ha : ∀ c, a c ≤ 3) (g : post (nI (hnn s a cnt)) T) : w_X12_handsThatGo N T post := by
  have c6 : s.1 0 5 = s.1 5 60 := hC.2.2.2.2.2.1
  have l : ∀ m i fuel, i + m = cnt → m < fuel → w_X12_handsThatGo_4 N post fuel T (nI (hnn s a i)) (nI i) := by
    intro m
    induction m with
    | zero =>
      intro i fuel hm hfu
      obtain ⟨fu, rfl⟩ : ∃ g, fuel = g + 1 := ⟨fuel - 1, by omega⟩
      have hi : i = cnt := by omega
      subst hi
      simp only [w_X12_handsThatGo_4, ec, nle (show i < 2 ^ 31 by omega) (show i < 2 ^ 31 by omega), Nat.le_refl, true_implies, false_implies, implies_true, not_true_eq_false, not_false_eq_true, not_true, not_false_iff, and_true, true_and, and_false, false_and, true_or, or_true, i1n0, i0e0]
      exact g
    | succ m ih =>
      intro i fuel hm hfu
      obtain ⟨fu, rfl⟩ : ∃ g, fuel = g + 1 := ⟨fuel - 1, by omega⟩
      have hr := ih (i + 1) fu (by omega) (by omega)
      have hv : vp_in (nI i) 7 := vp_in_nI (by omega) (by decide)
      have h3 := ha i
      have hle : (nI (a i) ≤ 0) = (a i ≤ 0) := nle (b := 0) (by omega) (by decide)
      have hs : hnn s a (i + 1) = hnn s a i + if a i = 0 then 0 else crn s i := rfl
      rw [hs] at hr
      simp only [w_X12_handsThatGo_4, ec, nle (show cnt < 2 ^ 31 by omega) (show i < 2 ^ 31 by omega), show ¬ cnt ≤ i by omega, true_implies, false_implies, implies_true, not_true_eq_false, not_false_eq_true, not_true, not_false_iff, and_true, true_and, and_false, false_and, true_or, or_true, i1n0, i0e0, hv, nI_clamp (show i < 2 ^ 31 by omega), h61 i (by omega), hle, forall_eq, nI_1, Int32.add_zero, e60, ← c6, (cr_e hC i).1, nI_add]
      by_cases e : a i = 0
      · rw [if_pos e, Nat.add_zero] at hr
        simp only [e, Nat.le_refl, true_implies, false_implies, implies_true, not_true_eq_false, not_false_eq_true, not_true, not_false_iff, and_true, true_and, and_false, false_and, true_or, or_true, i1n0, i0e0]
        exact hr
      · rw [if_neg e] at hr
        simp only [show ¬ a i ≤ 0 by omega, true_implies, false_implies, implies_true, not_true_eq_false, not_false_eq_true, not_true, not_false_iff, and_true, true_and, and_false, false_and, true_or, or_true, i1n0, i0e0]
        exact hr
  exact l cnt 0 N (by omega) (by omega)
theorem c37 {N cnt nfi : Nat} {x1 : Int32} {s V : Sx} {post : Int32 → Sx → Prop} (hN : 20000 ≤ N) (hC : IC s) (hF : IF s) (hc7 : cnt ≤ 7) (hn3 : nfi ≤ 3) (ec : s.1 0 1 4 = nI cnt) (en : s.1 0 25 4 = nI nfi) (h5 : ∀ n, n ≠ 61 → n ≠ 62 → V.1 5 n = s.1 5 n) (h6 : V.1 6 0 = s.1 6 0) (h62 : ∀ c' f', f' < nfi → c' < cnt → V.1 5 62 (3 * c' + f') = nI (hrn s f' c')) (g : ∀ b T, b < (nfi + 1) ^ cnt → (∀ x, x < (nfi + 1) ^ cnt → ky s cnt nfi b ≤ ky s cnt nfi x) → (∀ x, x < b → ky s cnt nfi b < ky s cnt nfi x) → LM V T → (x1 = -1 → post (nI (lgn s cnt (dg (nfi + 1) cnt b) nfi)) T) ∧ (¬ x1 = -1 → x1 = -2 → post (nI (hnn s (dg (nfi + 1) cnt b) cnt)) T) ∧ (¬ x1 = -1 → ¬ x1 = -2 → w_X12_layCall N (nI b) T (fun s_10 => vp_in x1 7 ∧ post (s_10.1 5 61 x1.toNatClampNeg) s_10))) : w_X12_call_37 N post N V x1 0 0 0 (nI ((nfi + 1) ^ cnt)) 0 := by
  have hpw := pw_le hn3 hc7
  have hpos : 0 < (nfi + 1) ^ cnt := Nat.pow_pos (by omega)
  have hLb : ∀ x, lgn s cnt (dg (nfi + 1) cnt x) nfi < 10000 := fun x => by have := lg_le hF cnt (dg (nfi + 1) cnt x) nfi; omega
  have hHb : ∀ x, hnn s (dg (nfi + 1) cnt x) cnt < 64 := fun x => by have := hn_le hC (dg (nfi + 1) cnt x) cnt; omega
  have l : ∀ m i fuel (T : Sx) (x2 x3 x4 : Int32), i + m = (nfi + 1) ^ cnt → m < fuel → LM V T → T.1 5 62 = V.1 5 62 → (i = 0 ∨ ∃ b, b < i ∧ (∀ x, x < i → ky s cnt nfi b ≤ ky s cnt nfi x) ∧ (∀ x, x < b → ky s cnt nfi b < ky s cnt nfi x) ∧ x2 = nI b ∧ x3 = nI (lgn s cnt (dg (nfi + 1) cnt b) nfi) ∧ x4 = nI (hnn s (dg (nfi + 1) cnt b) cnt)) → w_X12_call_37 N post fuel T x1 x2 x3 x4 (nI ((nfi + 1) ^ cnt)) (nI i) := by
    intro m
    induction m with
    | zero =>
      intro i fuel T x2 x3 x4 hm hfu h hT hb
      obtain ⟨fu, rfl⟩ : ∃ g, fuel = g + 1 := ⟨fuel - 1, by omega⟩
      rcases hb with hb | ⟨b, b1, b2, b3, rfl, rfl, rfl⟩
      · omega
      · have hi : i = (nfi + 1) ^ cnt := by omega
        subst hi
        obtain ⟨g1, g2, g3⟩ := g b T b1 b2 b3 h
        unfold w_X12_call_37
        refine ⟨fun _ => ⟨fun q1 => ⟨fun q2 => g3 q1 q2, fun q2 => g2 q1 (Classical.not_not.mp q2)⟩, fun q1 => g1 (Classical.not_not.mp q1)⟩, fun q => ?_⟩
        rw [nle (by omega) (by omega)] at q
        omega
    | succ m ih =>
      intro i fuel T x2 x3 x4 hm hfu h hT hb
      obtain ⟨fu, rfl⟩ : ∃ g, fuel = g + 1 := ⟨fuel - 1, by omega⟩
      unfold w_X12_call_37
      refine ⟨fun q => ?_, fun _ => ?_⟩
      · rw [nle (by omega) (by omega)] at q
        omega
      · refine lb_eq hN hC hF hc7 hn3 ec en (by omega) (fun n a b => by rw [h.2.2 n a b, h5 n a b]) (by rw [h.2.1 6 (by decide), h6]) (fun c' f' h1 h2 => by rw [hT]; exact h62 c' f' h1 h2) (fun U u1 u2 u3 => ?_)
        have hU := h.trans u1
        have e6 : U.1 6 0 = s.1 6 0 := by rw [hU.2.1 6 (by decide), h6]
        refine hh_eq (a := dg (nfi + 1) cnt i) hN hC hc7 (by rw [e6, ← hC.1, ec]) (by rw [hU.2.2 60 (by decide) (by decide), h5 60 (by decide) (by decide)]) u3 (dg_le hn3 cnt i) ?_
        rw [ls_n hF]
        have hL := hLb i
        have hH := hHb i
        have take : (∀ x, x < i → ky s cnt nfi i < ky s cnt nfi x) → w_X12_call_82 N post (w_X12_call_37 N post fu) U x1 (nI ((nfi + 1) ^ cnt)) (nI i) (nI (lgn s cnt (dg (nfi + 1) cnt i) nfi)) (nI (hnn s (dg (nfi + 1) cnt i) cnt)) := fun hk => by
          unfold w_X12_call_82
          intro x hx
          rw [hx, nI_1]
          refine ih (i + 1) fu U _ _ _ (by omega) (by omega) hU (by rw [u2, hT]) (Or.inr ⟨i, by omega, fun x hx => ?_, hk, rfl, rfl, rfl⟩)
          by_cases e : x = i
          · rw [e]; exact Nat.le_refl _
          · exact Nat.le_of_lt (hk x (by omega))
        refine ⟨fun q => ?_, fun q => ?_⟩
        · have : i = 0 := by rw [show (0 : Int32) = nI 0 from rfl, neq (by omega) (by omega)] at q; exact q
          exact take (fun x hx => by omega)
        · have hi0 : i ≠ 0 := fun e => q (by rw [e]; rfl)
          rcases hb with hb | ⟨b, b1, b2, b3, rfl, rfl, rfl⟩
          · exact absurd hb hi0
          · have hL2 := hLb b
            have hH2 := hHb b
            have ki : ky s cnt nfi i = lgn s cnt (dg (nfi + 1) cnt i) nfi * 64 + hnn s (dg (nfi + 1) cnt i) cnt := rfl
            have kb : ky s cnt nfi b = lgn s cnt (dg (nfi + 1) cnt b) nfi * 64 + hnn s (dg (nfi + 1) cnt b) cnt := rfl
            have skip : ky s cnt nfi b ≤ ky s cnt nfi i → ∀ x : Int32, x = nI i + 1 → w_X12_call_37 N post fu U x1 (nI b) (nI (lgn s cnt (dg (nfi + 1) cnt b) nfi)) (nI (hnn s (dg (nfi + 1) cnt b) cnt)) (nI ((nfi + 1) ^ cnt)) x := fun hk x hx => by
              rw [hx, nI_1]
              refine ih (i + 1) fu U _ _ _ (by omega) (by omega) hU (by rw [u2, hT]) (Or.inr ⟨b, by omega, fun x hx => ?_, b3, rfl, rfl, rfl⟩)
              by_cases e : x = i
              · rw [e]; exact hk
              · exact b2 x (by omega)
            rw [nlt (by omega) (by omega), neq (by omega) (by omega), nle (by omega) (by omega)]
            refine ⟨fun p => take (fun x hx => by have := b2 x hx; omega), fun p => ⟨fun p2 => skip (by omega), fun p2 => ⟨fun p3 => skip (by omega), fun p3 => take (fun x hx => by have := b2 x hx; omega)⟩⟩⟩
  exact l ((nfi + 1) ^ cnt) 0 N V 0 0 0 (by omega) (by omega) (LM.refl V) rfl (Or.inl rfl)
theorem Inv.lvm {k : Nat} {s S T : Sx} (hI : Inv k s) (h : LV s S) (g : LM S T) : Inv (k + 1) T := hI.fir (fun n n0 n1 => by rw [g.2.1 0 (by decide), h.2.1 n n0 n1]) (fun k k0 k5 => by rw [g.2.1 k k5, h.1 k k0]) (fun n n0 n1 => by rw [g.2.2 n n0 n1, h.1 5 (by decide)]) (by rw [g.1, h.2.2])
set_option maxHeartbeats 1000000 in
theorem cs_call {N k : Nat} {s : Sx} (hN : 20000 ≤ N) (hk : k ≤ 600) (hI : Inv k s) (x1 : Int32) (P : Int32 → Int32 → Sx → Prop) (hP : ∀ r s', Inv (k + 1) s' → P r r s') : w_X11_call N x1 s (fun r s1 => w_X12_call N x1 s1 (fun r2 s2 => P r r2 s2)) := by
  have hI2 := hI.up
  obtain ⟨hIC, hIM, hIP, hIZ, hIR, hIY, hIW, hIT, hIF, hIL, hIS⟩ := id hI
  obtain ⟨c1, c2, -⟩ := id hIC
  obtain ⟨f1, f2, -⟩ := id hIF
  obtain ⟨cnt, hc7, ec⟩ := wi_n (n := 7) (by decide) c2
  obtain ⟨nfi, hn3, en⟩ := wi_n (n := 3) (by decide) f2
  have hpw := pw_le hn3 hc7
  have hs1 : (nI cnt - 1).toInt = (cnt : Int) - 1 := by
    rw [show (1 : Int32) = nI 1 from rfl, pk_sub_toInt (by omega) (by decide)]
    rfl
  have href : ∀ (S : Sx) (Q : Int32 → Sx → Prop), LV s S → (¬ wi x1 (-2) (nI cnt - 1) → Q (-1) S) → (wi x1 (-2) (nI cnt - 1) → ∀ b T, b < (nfi + 1) ^ cnt → (∀ x, x < (nfi + 1) ^ cnt → ky s cnt nfi b ≤ ky s cnt nfi x) → (∀ x, x < b → ky s cnt nfi b < ky s cnt nfi x) → LM S T → (x1 = -1 → Q (nI (lgn s cnt (dg (nfi + 1) cnt b) nfi)) T) ∧ (¬ x1 = -1 → x1 = -2 → Q (nI (hnn s (dg (nfi + 1) cnt b) cnt)) T) ∧ (¬ x1 = -1 → ¬ x1 = -2 → w_X12_layCall N (nI b) T (fun s_10 => vp_in x1 7 ∧ Q (s_10.1 5 61 x1.toNatClampNeg) s_10))) → w_X12_call N x1 S Q := by
    intro S Q h g0 g1
    have e5 : S.1 6 0 5 = nI cnt := by rw [h.1 6 (by decide), ← c1, ec]
    have e55 : S.1 6 0 55 = nI nfi := by rw [h.1 6 (by decide), ← f1, en]
    unfold w_X12_call
    rw [wm_eq, e5]
    refine ⟨fun hw => ⟨fun _ => ?_, fun q => absurd (by decide) q⟩, fun hw => ⟨fun q => absurd rfl q, fun _ => g0 hw⟩⟩
    refine cl_eq hN hc7 hn3 e5 e55 ?_
    refine lyh_eq hN hIC hIF hc7 hn3 ec en (h.1 5 (by decide)) (congrFun (h.1 6 (by decide)) 0) (fun T t1 t2 => ?_)
    refine c37 hN hIC hIF hc7 hn3 ec en (fun n a b => by rw [t1.2.2 n a b, h.1 5 (by decide)]) (by rw [t1.2.1 6 (by decide), h.1 6 (by decide)]) t2 (fun b U k1 k2 k3 u1 => g1 hw b U k1 k2 k3 (t1.trans u1))
  have m1 : (-1 : Int32).toInt = -1 := by decide
  have m2 : (-2 : Int32).toInt = -2 := by decide
  have z0 : (0 : Int32).toInt = 0 := by decide
  have hHb : ∀ x, hnn s (dg (nfi + 1) cnt x) cnt < 64 := fun x => by have := hn_le hIC (dg (nfi + 1) cnt x) cnt; omega
  have hRb : ∀ x, rwn (dg (nfi + 1) cnt x) cnt < 2 ^ 14 := fun x => rw_lt (dg_le hn3 cnt x) hc7
  have hvb : ∀ v, (∃ a : Nat → Nat, (∀ c, c < cnt → a c ≤ nfi) ∧ v = wg s cnt a nfi) → v < 2 ^ 62 := fun v h2 => by
    obtain ⟨a, a1, a2⟩ := h2
    have := wg_le hIC hIF hc7 a nfi hn3
    omega
  unfold w_X11_call
  refine ⟨fun p1 => ⟨fun p2 => ?_, fun p2 => ?_⟩, fun p1 => ?_⟩
  · unfold w_X0_has
    rw [wi_eq, ec]
    have hww : wi x1 0 (nI cnt - 1) ↔ wi x1 (-2) (nI cnt - 1) := by
      rw [wi_i, wi_i, hs1, z0, m2]
      rw [← Int32.toInt_inj, m1] at p1
      rw [← Int32.toInt_inj, m2] at p2
      omega
    refine ⟨fun hw => ⟨Or.inr rfl, fun q => absurd q (by decide), fun _ => ?_⟩, fun hw => ⟨Or.inl rfl, fun _ => ?_, fun q => absurd rfl q⟩⟩
    · refine bcl_eq hN hIC hIF hc7 hn3 ec en (fun S v hS h1 h2 => ?_)
      obtain ⟨j, rfl, j1, j2, j3, j4⟩ := inC (M := 7) (by decide) (by rw [ec] at c2; exact c2) hw
      rw [nI_clamp (show cnt < 2 ^ 31 by omega)] at j1
      have hj7 : j < 7 := by omega
      simp only [w_X1_goalIn, w_X1_rowBit]
      rw [bw_go (hvb v h2) hj7]
      refine href S _ hS (fun q => absurd (hww.mp hw) q) (fun _ b T k1 k2 k3 t1 => ⟨fun q => absurd q p1, fun _ q => absurd q p2, fun _ _ => ?_⟩)
      have ev := enc_b hc7 hn3 h1 h2 k2 k3
      rw [ev, dec_g hc7 (dg_le hn3 cnt b) (fun c hc => dg_0 cnt b c hc) (by omega)]
      have e6 : T.1 6 0 = s.1 6 0 := by rw [t1.2.1 6 (by decide), hS.1 6 (by decide)]
      have en2 : T.1 6 0 55 = nI nfi := by rw [e6, ← f1, en]
      have ec2 : T.1 6 0 5 = nI cnt := by rw [e6, ← c1, ec]
      have em1 : nI cnt - 1 = nI cnt + (-1) := by rw [Int32.sub_eq_add_neg]
      simp only [w_X12_layCall, ec2, forall_eq, em1]
      refine lc_lp hn3 hc7 en2 cnt b N T (Nat.le_refl _) (by omega) (by omega) (LM.refl T) (fun U u1 u2 u3 _ => ⟨j3, ?_⟩)
      rw [j4, u3 j (by omega)]
      exact hP _ _ (hI.lvm hS (t1.trans u1))
    · refine href s _ (LV.refl s) (fun _ => hP _ _ hI2) (fun q => absurd (hww.mpr q) hw)
  · have e : x1 = -2 := Classical.not_not.mp p2
    have hw : wi x1 (-2) (nI cnt - 1) := by rw [wi_i, hs1, e, m2]; omega
    refine bcl_eq hN hIC hIF hc7 hn3 ec en (fun S v hS h1 h2 => ?_)
    unfold w_X1_handsIn
    rw [bw_hn (hvb v h2)]
    refine href S _ hS (fun q => absurd hw q) (fun _ b T k1 k2 k3 t1 => ⟨fun q => absurd q p1, fun _ _ => ?_, fun _ q => absurd e q⟩)
    have ev := enc_b hc7 hn3 h1 h2 k2 k3
    have hr := hRb b
    have hh := hHb b
    have : v / 2 ^ 14 % 64 = hnn s (dg (nfi + 1) cnt b) cnt := by rw [ev]; unfold ky; omega
    rw [this]
    exact hP _ _ (hI.lvm hS t1)
  · have e : x1 = -1 := Classical.not_not.mp p1
    have hw : wi x1 (-2) (nI cnt - 1) := by rw [wi_i, hs1, e, m1, m2]; omega
    refine bcl_eq hN hIC hIF hc7 hn3 ec en (fun S v hS h1 h2 => ?_)
    unfold w_X1_lostIn
    rw [bw_lo (hvb v h2)]
    refine href S _ hS (fun q => absurd hw q) (fun _ b T k1 k2 k3 t1 => ⟨fun _ => ?_, fun q => absurd e q, fun q => absurd e q⟩)
    have ev := enc_b hc7 hn3 h1 h2 k2 k3
    have hr := hRb b
    have hh := hHb b
    have : v / 2 ^ 20 = lgn s cnt (dg (nfi + 1) cnt b) nfi := by rw [ev]; unfold ky; omega
    rw [this]
    exact hP _ _ (hI.lvm hS t1)
