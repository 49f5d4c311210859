/-! calls -/
theorem LU.trans {s S U : Sx} (h : LU s S) (g : LU S U) : LU s U := ⟨g.1.trans h.1, fun k hk => (g.2.1 k hk).trans (h.2.1 k hk), fun n n0 n1 => (g.2.2 n n0 n1).trans (h.2.2 n n0 n1)⟩
theorem LU.ic {s S : Sx} (h : LU s S) (hC : IC s) : IC S := by
  apply IC.of (s := s) <;> first | exact hC | exact congrFun (h.2.2 _ (by decide) (by decide)) _ | exact h.2.2 _ (by decide) (by decide) | exact congrFun (h.2.1 _ (by decide)) _ | (rw [h.2.1 _ (by decide)])
theorem LU.if_ {s S : Sx} (h : LU s S) (hC : IF s) : IF S := by
  apply IF.of (s := s) <;> first | exact hC | exact congrFun (h.2.2 _ (by decide) (by decide)) _ | exact h.2.2 _ (by decide) (by decide) | exact congrFun (h.2.1 _ (by decide)) _ | (rw [h.2.1 _ (by decide)])
theorem LU.hr {s S : Sx} (h : LU s S) (f : Nat) : hrn S f = hrn s f := by
  funext c
  unfold hrn hri
  rw [h.2.2 2 (by decide) (by decide), h.2.2 3 (by decide) (by decide), h.2.2 26 (by decide) (by decide), h.2.2 27 (by decide) (by decide)]
def dg (B : Nat) : Nat → Nat → Nat → Nat
  | 0, _, _ => 0
  | n + 1, x, c => if c = n then x % B else dg B n (x / B) c
def msk (B f : Nat) : Nat → Nat → Nat → Nat
  | 0, _, t => t
  | n + 1, x, t => msk B f n (x / B) (if x % B = f + 1 then t ||| 2 ^ n else t)
theorem bt_or : ∀ t, t < 128 → ∀ n, n < 7 → t ||| 2 ^ n < 128 ∧ ∀ c, c < 7 → bt (t ||| 2 ^ n) c = if c = n then 1 else bt t c := by decide +kernel
theorem msk_e {B f : Nat} : ∀ n x t, n ≤ 7 → t < 128 → msk B f n x t < 128 ∧ ∀ c, c < 7 → (bt (msk B f n x t) c = 1 ↔ (c < n ∧ dg B n x c = f + 1) ∨ bt t c = 1)
  | 0, x, t, _, ht => ⟨ht, fun c _ => by
    show bt t c = 1 ↔ _
    constructor
    · exact fun h => Or.inr h
    · rintro (h | h)
      · omega
      · exact h⟩
  | n + 1, x, t, hn, ht => by
    unfold msk
    by_cases e : x % B = f + 1
    · rw [if_pos e]
      obtain ⟨o1, o2⟩ := bt_or t ht n (by omega)
      obtain ⟨h1, h2⟩ := msk_e (B := B) (f := f) n (x / B) (t ||| 2 ^ n) (by omega) o1
      refine ⟨h1, fun c hc => ?_⟩
      rw [h2 c hc, o2 c hc]
      by_cases ec : c = n
      · rw [if_pos ec]
        refine ⟨fun _ => Or.inl ⟨by omega, ?_⟩, fun _ => Or.inr rfl⟩
        show (if c = n then x % B else _) = _
        rw [if_pos ec, e]
      · rw [if_neg ec]
        have : dg B (n + 1) x c = dg B n (x / B) c := if_neg ec
        rw [this]
        constructor
        · rintro (h | h)
          · exact Or.inl ⟨by omega, h.2⟩
          · exact Or.inr h
        · rintro (h | h)
          · exact Or.inl ⟨by omega, h.2⟩
          · exact Or.inr h
    · rw [if_neg e]
      obtain ⟨h1, h2⟩ := msk_e (B := B) (f := f) n (x / B) t (by omega) ht
      refine ⟨h1, fun c hc => ?_⟩
      rw [h2 c hc]
      by_cases ec : c = n
      · have : dg B (n + 1) x c = x % B := if_pos ec
        rw [this]
        constructor
        · rintro (h | h)
          · omega
          · exact Or.inr h
        · rintro (h | h)
          · exact absurd h.2 e
          · exact Or.inr h
      · have : dg B (n + 1) x c = dg B n (x / B) c := if_neg ec
        rw [this]
        constructor
        · rintro (h | h)
          · exact Or.inl ⟨by omega, h.2⟩
          · exact Or.inr h
        · rintro (h | h)
          · exact Or.inl ⟨by omega, h.2⟩
          · exact Or.inr h
theorem hld_cong {hr cr : Nat → Nat} {G H : Nat → Prop} {n nd : Nat} (h : ∀ c, c < n → (G c ↔ H c)) : hld hr cr G n nd = hld hr cr H n nd := by
  unfold hld
  rw [frs_cong (d := fun h => nd ≤ wh hr cr H n h)]
  intro j _ _
  have : wh hr cr G n j = wh hr cr H n j := by
    unfold wh
    refine sN_cong (fun c hc => ?_)
    by_cases e : G c ∧ hr c ≤ j
    · rw [if_pos e, if_pos ⟨(h c hc).mp e.1, e.2⟩]
    · rw [if_neg e, if_neg (fun q => e ⟨(h c hc).mpr q.1, q.2⟩)]
  show nd ≤ _ ↔ nd ≤ _
  rw [this]
/-- the hour in which the call x holds the fire f -/
noncomputable def hx (s : Sx) (cnt nfi x f : Nat) : Nat := hld (hrn s f) (crn s) (fun c => dg (nfi + 1) cnt x c = f + 1) cnt (s.1 0 28 f).toNatClampNeg
theorem bt_0 : ∀ c, c < 7 → ¬ bt 0 c = 1 := by decide
theorem hx_e {s : Sx} {cnt nfi x f : Nat} (hc7 : cnt ≤ 7) : hd s cnt f (msk (nfi + 1) f cnt x 0) = hx s cnt nfi x f := by
  unfold hd hx
  refine hld_cong (fun c hc => ?_)
  rw [(msk_e cnt x 0 hc7 (by decide)).2 c (by omega)]
  constructor
  · rintro (h | h)
    · exact h.2
    · exact absurd h (bt_0 c (by omega))
  · exact fun h => Or.inl ⟨hc, h⟩
theorem go_loop {N nfi f : Nat} {S : Sx} {post : Int32 → Sx → Prop} (hn3 : nfi ≤ 3) (en : S.1 0 25 4 = nI nfi) (hf : f < nfi) : ∀ n x t fuel, n ≤ 7 → x < 2 ^ 30 → t < 128 → n < fuel → post (nI (msk (nfi + 1) f n x t)) S → w_X1_goersTo_14 N post fuel S (nI f) (nI t) (nI x) (nI n + (-1)) := by
  have e1 : nI nfi + 1 = nI (nfi + 1) := nI_1 nfi
  have hnz : ¬ lN (nfi + 1) = 0 := by show ¬ lN (nfi + 1) = lN 0; rw [pk_lEQ (by omega) (by decide)]; omega
  intro n
  induction n with
  | zero =>
    intro x t fuel hn hx ht hfu hp
    obtain ⟨fu, rfl⟩ : ∃ g, fuel = g + 1 := ⟨fuel - 1, by omega⟩
    have h0 : nI 0 + (-1) < 0 := by decide
    simp only [w_X1_goersTo_14, h0, true_implies, false_implies, implies_true, not_true_eq_false, not_false_eq_true, not_true, not_false_iff, and_true, true_and, and_false, false_and, true_or, or_true, i1n0, i0e0]
    exact hp
  | succ n ih =>
    intro x t fuel hn hx ht hfu hp
    obtain ⟨fu, rfl⟩ : ∃ g, fuel = g + 1 := ⟨fuel - 1, by omega⟩
    have hd : x / (nfi + 1) ≤ x := Nat.div_le_self _ _
    have hm : x % (nfi + 1) < nfi + 1 := Nat.mod_lt _ (by omega)
    rw [pk_m1]
    simp only [w_X1_goersTo_14, w_X1_goersTo_45, w_X11_quotient, nI_pos (show n < 2 ^ 31 by omega), en, e1, rem_eq (show x < 2 ^ 31 by omega) (show nfi + 1 < 2 ^ 31 by omega) (show 1 ≤ nfi + 1 by omega), nI_1, neq (show x % (nfi + 1) < 2 ^ 31 by omega) (show f + 1 < 2 ^ 31 by omega), true_implies, false_implies, implies_true, not_true_eq_false, not_false_eq_true, not_true, not_false_iff, and_true, true_and, and_false, false_and, true_or, or_true, i1n0, i0e0, nI_l (show x < 2 ^ 31 by omega), nI_l (show nfi + 1 < 2 ^ 31 by omega), lg_cmp_eq, hnz, pk_lDiv (show x < 2 ^ 63 by omega) (show 0 < nfi + 1 by omega) (show nfi + 1 < 2 ^ 63 by omega), forall_eq, lN_i, or_bt t (by omega) n (by omega)]
    unfold msk at hp
    by_cases e : x % (nfi + 1) = f + 1
    · rw [if_pos e] at hp
      simp only [e, true_implies, false_implies, implies_true, not_true_eq_false, not_false_eq_true, not_true, not_false_iff, and_true, true_and, and_false, false_and, true_or, or_true, i1n0, i0e0]
      exact ih _ _ fu (by omega) (by omega) (bt_or t ht n (by omega)).1 (by omega) hp
    · rw [if_neg e] at hp
      simp only [e, true_implies, false_implies, implies_true, not_true_eq_false, not_false_eq_true, not_true, not_false_iff, and_true, true_and, and_false, false_and, true_or, or_true, i1n0, i0e0]
      exact ih _ _ fu (by omega) (by omega) ht (by omega) hp
noncomputable def ls (s : Sx) (cnt nfi x : Nat) : Nat → Int32
  | 0 => 0
  | f + 1 => ls s cnt nfi x f + s.1 0 29 f * nI (hx s cnt nfi x f)
theorem lb_loop {N cnt nfi x : Nat} {s : Sx} {post : Int32 → Sx → Prop} (hN : 20000 ≤ N) (hC : IC s) (hF : IF s) (hc7 : cnt ≤ 7) (hn3 : nfi ≤ 3) (ec : s.1 0 1 4 = nI cnt) (en : s.1 0 25 4 = nI nfi) (hx30 : x < 2 ^ 30) (g : ∀ S', LU s S' → post (ls s cnt nfi x nfi) S') : ∀ m f fuel (S : Sx), f + m = nfi → m < fuel → LU s S → w_X1_lostByCall_5 N post fuel S (nI x) (ls s cnt nfi x f) (nI f) := by
  intro m
  induction m with
  | zero =>
    intro f fuel S hm hfu h
    obtain ⟨fu, rfl⟩ : ∃ g, fuel = g + 1 := ⟨fuel - 1, by omega⟩
    have hf : f = nfi := by omega
    subst hf
    have en' : S.1 0 25 4 = nI f := by rw [h.2.2 25 (by decide) (by decide), en]
    simp only [w_X1_lostByCall_5, en', nle (show f < 2 ^ 31 by omega) (show f < 2 ^ 31 by omega), Nat.le_refl, true_implies, false_implies, implies_true, not_true_eq_false, not_false_eq_true, not_true, not_false_iff, and_true, true_and, and_false, false_and, true_or, or_true, i1n0, i0e0]
    exact g S h
  | succ m ih =>
    intro f fuel S hm hfu h
    obtain ⟨fu, rfl⟩ : ∃ g, fuel = g + 1 := ⟨fuel - 1, by omega⟩
    have en' : S.1 0 25 4 = nI nfi := by rw [h.2.2 25 (by decide) (by decide), en]
    have ec' : S.1 0 1 4 = nI cnt := by rw [h.2.2 1 (by decide) (by decide), ec]
    simp only [w_X1_lostByCall_5, en', nle (show nfi < 2 ^ 31 by omega) (show f < 2 ^ 31 by omega), show ¬ nfi ≤ f by omega, true_implies, false_implies, implies_true, not_true_eq_false, not_false_eq_true, not_true, not_false_iff, and_true, true_and, and_false, false_and, true_or, or_true, i1n0, i0e0]
    refine lu_eq hN (h.ic hC) (h.if_ hF) hc7 (by omega) ec' (fun S' g1 g2 g3 => ?_)
    have hS' := h.trans g1
    rw [h.hr f] at g2 g3
    have en2 : S'.1 0 25 4 = nI nfi := by rw [hS'.2.2 25 (by decide) (by decide), en]
    have ec2 : S'.1 0 1 4 = nI cnt := by rw [hS'.2.2 1 (by decide) (by decide), ec]
    have em1 : nI cnt - 1 = nI cnt + (-1) := by rw [Int32.sub_eq_add_neg]
    simp only [w_X1_goersTo, ec2, forall_eq, em1]
    refine go_loop hn3 en2 (by omega) cnt x 0 N hc7 hx30 (by decide) (by omega) ?_
    have hnw : wi (s.1 0 28 f) 1 60 := hF.2.2.2.2.2.2.2.2.2.2 f (by rw [en, nI_clamp (by omega)]; omega)
    refine la_eq (s := s) hN hC hF hc7 (by omega) (msk_e cnt x 0 hc7 (by decide)).1 ec hnw (fun n hn => hS'.2.2 n (by omega) (by omega)) g2 g3 ?_
    rw [hx_e hc7]
    simp only [forall_eq, nI_1]
    exact ih (f + 1) fu S' (by omega) (by omega) hS'
