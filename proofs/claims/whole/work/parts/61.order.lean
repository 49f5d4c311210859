/-! orders: what a text tells -/
noncomputable def rdn (f : Nat → Int32) (n : Nat) : Nat → Nat → Int32 → Nat × Int32
  | 0, at_, v => (at_, v)
  | m + 1, at_, v => @ite _ (at_ < n ∧ wi (f at_) 48 57) (pd _) (rdn f n m (at_ + 1) (((10 * v) + f at_) - 48)) (at_, v)
theorem rdn_y {f : Nat → Int32} {n m a : Nat} {v : Int32} (h : a < n ∧ wi (f a) 48 57) : rdn f n (m + 1) a v = rdn f n m (a + 1) (((10 * v) + f a) - 48) := by
  conv => lhs; unfold rdn
  rw [if_pos h]
theorem rdn_n {f : Nat → Int32} {n m a : Nat} {v : Int32} (h : ¬ (a < n ∧ wi (f a) 48 57)) : rdn f n (m + 1) a v = (a, v) := by
  conv => lhs; unfold rdn
  rw [if_neg h]
theorem rdn_le {f : Nat → Int32} {n : Nat} : ∀ {m a : Nat} {v : Int32}, a ≤ n → a ≤ (rdn f n m a v).1 ∧ (rdn f n m a v).1 ≤ n
  | 0, a, v, h => ⟨Nat.le_refl _, h⟩
  | m + 1, a, v, h => by
    by_cases c : a < n ∧ wi (f a) 48 57
    · rw [rdn_y c]; have := rdn_le (f := f) (n := n) (m := m) (a := a + 1) (v := ((10 * v) + f a) - 48) (by omega); omega
    · rw [rdn_n c]; exact ⟨Nat.le_refl _, h⟩
noncomputable def psg (f : Nat → Int32) (n : Nat) (x : Int32) (a : Nat) : Option Nat := @ite _ (a < n ∧ f a = x) (pd _) (some (a + 1)) none
noncomputable def pnm (f : Nat → Int32) (n d : Nat) (lo hi : Int32) (a : Nat) : Option (Int32 × Nat) := @ite _ ((rdn f n d a 0).1 = a ∨ ¬ wi (rdn f n d a 0).2 lo hi) (pd _) none (some ((rdn f n d a 0).2, (rdn f n d a 0).1))
theorem psg_le {f : Nat → Int32} {n : Nat} {x : Int32} {a b : Nat} (h : psg f n x a = some b) : b ≤ n := by
  unfold psg at h
  by_cases c : a < n ∧ f a = x
  · rw [if_pos c] at h; injection h with h; omega
  · rw [if_neg c] at h; simp at h
theorem pnm_le {f : Nat → Int32} {n d : Nat} {lo hi v : Int32} {a b : Nat} (ha : a ≤ n) (h : pnm f n d lo hi a = some (v, b)) : b ≤ n ∧ wi v lo hi := by
  unfold pnm at h
  by_cases c : (rdn f n d a 0).1 = a ∨ ¬ wi (rdn f n d a 0).2 lo hi
  · rw [if_pos c] at h; simp at h
  · rw [if_neg c] at h
    simp only [Option.some.injEq, Prod.mk.injEq] at h
    have := rdn_le (f := f) (n := n) (m := d) (a := a) (v := 0) ha
    exact ⟨by omega, by rw [← h.1]; exact Classical.not_not.mp (fun q => c (Or.inr q))⟩
/-- the reader p stands at a, without a fault -/
def FC (B : Sx) (p : Nat) (S : Sx) (j i n c a : Nat) : Prop := S.2 = B.2 ∧ (∀ k, k ≠ 4 → S.1 k = B.1 k) ∧ S.1 4 p 0 = nI (j + 1) ∧ S.1 4 p 1 = nI i ∧ S.1 4 p 2 = nI n ∧ S.1 4 p 3 = nI c ∧ S.1 4 p 4 = nI a ∧ S.1 4 p 5 = (-1)
/-- the reader p has the fault q -/
def FF (B : Sx) (p : Nat) (S : Sx) (q : Nat) : Prop := S.2 = B.2 ∧ (∀ k, k ≠ 4 → S.1 k = B.1 k) ∧ S.1 4 p 5 = nI q
theorem FC.set {B S : Sx} {p j i n c a s_ : Nat} {v : Int32} (h : FC B p S j i n c a) (hs : 6 ≤ s_) : FC B p (setI S 4 p s_ v) j i n c a := by
  obtain ⟨h1, h2, h3, h4, h5, h6, h7, h8⟩ := h
  refine ⟨h1, fun k hk => ?_, ?_, ?_, ?_, ?_, ?_, ?_⟩
  · funext u; rw [rdI, if_neg (by omega), h2 k hk]
  all_goals (rw [rdI, if_pos ⟨rfl, rfl⟩, rdU, if_neg (by omega)]; assumption)
theorem FC.at_ {B S : Sx} {p j i n c a b : Nat} (h : FC B p S j i n c a) : FC B p (setI S 4 p 4 (nI b)) j i n c b := by
  obtain ⟨h1, h2, h3, h4, h5, h6, h7, h8⟩ := h
  refine ⟨h1, fun k hk => ?_, ?_, ?_, ?_, ?_, ?_, ?_⟩
  · funext u; rw [rdI, if_neg (by omega), h2 k hk]
  all_goals rw [rdI, if_pos ⟨rfl, rfl⟩, rdU]
  all_goals first | (rw [if_neg (by omega)]; assumption) | rw [if_pos rfl]
theorem FC.flt {B S : Sx} {p j i n c a q : Nat} (h : FC B p S j i n c a) : FF B p (setI S 4 p 5 (nI q)) q := by
  obtain ⟨h1, h2, h3, h4, h5, h6, h7, h8⟩ := h
  refine ⟨h1, fun k hk => ?_, ?_⟩
  · funext u; rw [rdI, if_neg (by omega), h2 k hk]
  · rw [rdI, if_pos ⟨rfl, rfl⟩, rdU, if_pos rfl]
theorem FF.set {B S : Sx} {p q s_ : Nat} {v : Int32} (h : FF B p S q) (hs : 6 ≤ s_) : FF B p (setI S 4 p s_ v) q := by
  obtain ⟨h1, h2, h3⟩ := h
  refine ⟨h1, fun k hk => ?_, ?_⟩
  · funext u; rw [rdI, if_neg (by omega), h2 k hk]
  · rw [rdI, if_pos ⟨rfl, rfl⟩, rdU, if_neg (by omega)]; exact h3
theorem nm1 (d : Nat) (h : d < 2 ^ 31) : ¬ nI d = (-1) := fun e => by
  have := congrArg Int32.toInt e
  rw [nI_toInt h, show (-1 : Int32).toInt = -1 from by decide] at this
  omega
theorem FC.p6 {B S : Sx} {p j i n c a : Nat} (h : FC B p S j i n c a) (hp : p < B.2.2 6) : p < S.2.2 6 := by rw [h.1]; exact hp
theorem FF.p6 {B S : Sx} {p q : Nat} (h : FF B p S q) (hp : p < B.2.2 6) : p < S.2.2 6 := by rw [h.1]; exact hp
theorem sg_f {N p q : Nat} {B S : Sx} {x : Int32} {post : Sx → Prop} (hp : p < B.2.2 6) (hq : q < 100) (h : FF B p S q) (g : post S) : w_X3_readSign N p x S post := by
  simp only [w_X3_readSign, w_X3_isFaulty, h.p6 hp, h.2.2, nm1 q (by omega), true_implies, false_implies, implies_true, not_true_eq_false, not_false_eq_true, not_true, not_false_iff, and_true, true_and, and_false, false_and, true_or, or_true, i1n0, i0e0]
  exact g
theorem nm_f {N p q : Nat} {B S : Sx} {x1 x2 x3 : Int32} {post : Int32 → Sx → Prop} (hp : p < B.2.2 6) (hq : q < 100) (h : FF B p S q) (g : post 0 S) : w_X3_readNumber N p x1 x2 x3 S post := by
  simp only [w_X3_readNumber, w_X3_isFaulty, h.p6 hp, h.2.2, nm1 q (by omega), true_implies, false_implies, implies_true, not_true_eq_false, not_false_eq_true, not_true, not_false_iff, and_true, true_and, and_false, false_and, true_or, or_true, i1n0, i0e0]
  exact g
theorem cd_c {N p j i n c a : Nat} {B S : Sx} {post : Int32 → Sx → Prop} (hp : p < B.2.2 6) (hj : j < 4) (hin : i + n ≤ 60) (h : FC B p S j i n c a) (ha : a < n) (g : post (B.1 0 (46 + j) (i + a)) S) : w_X3_code N p S post := by
  obtain ⟨h1, h2, h3, h4, h5, h6, h7, h8⟩ := id h
  have hw : wi (nI (i + a)) 0 59 := wi_nI (M := 59) (by omega) (by decide)
  have hv : vp_in (nI (i + a)) 60 := vp_in_nI (by omega) (by decide)
  refine ⟨h.p6 hp, j, hj, h3, h.p6 hp, h.p6 hp, ?_⟩
  simp only [w_X7_read, wi_eq, hj, h4, h7, nI_add, hw, hv, nI_clamp (show i + a < 2 ^ 31 by omega), true_implies, false_implies, implies_true, not_true_eq_false, not_false_eq_true, not_true, not_false_iff, and_true, true_and, and_false, false_and, true_or, or_true, i1n0, i0e0]
  rw [h2 0 (by decide)]
  exact g
theorem sg_c {N p j i n c a : Nat} {B S : Sx} {x : Int32} {f : Nat → Int32} {post : Sx → Prop} (hp : p < B.2.2 6) (hj : j < 4) (hin : i + n ≤ 60) (hf : ∀ u, u < n → f u = B.1 0 (46 + j) (i + u)) (h : FC B p S j i n c a) (ha : a ≤ n) (g1 : ∀ b S', psg f n x a = some b → FC B p S' j i n c b → S'.1 4 p = upd (S.1 4 p) 4 (nI b) → post S') (g0 : ∀ S', psg f n x a = none → FF B p S' a → post S') : w_X3_readSign N p x S post := by
  obtain ⟨h1, h2, h3, h4, h5, h6, h7, h8⟩ := id h
  simp only [w_X3_readSign, w_X3_isFaulty, w_X3_readSign_40, h.p6 hp, h8, h5, h7, nle (show n < 2 ^ 31 by omega) (show a < 2 ^ 31 by omega), true_implies, false_implies, implies_true, not_true_eq_false, not_false_eq_true, not_true, not_false_iff, and_true, true_and, and_false, false_and, true_or, or_true, i1n0, i0e0, forall_eq, nI_1]
  unfold psg at g1 g0
  by_cases c1 : n ≤ a
  · rw [if_neg (by omega)] at g0
    simp only [c1, true_implies, false_implies, implies_true, not_true_eq_false, not_false_eq_true, not_true, not_false_iff, and_true, true_and, and_false, false_and, true_or, or_true, i1n0, i0e0]
    exact g0 _ rfl h.flt
  · simp only [c1, true_implies, false_implies, implies_true, not_true_eq_false, not_false_eq_true, not_true, not_false_iff, and_true, true_and, and_false, false_and, true_or, or_true, i1n0, i0e0]
    refine cd_c hp hj hin h (by omega) ?_
    rw [← hf a (by omega)]
    simp only [h.p6 hp, h7, nI_1, true_implies, false_implies, implies_true, not_true_eq_false, not_false_eq_true, not_true, not_false_iff, and_true, true_and, and_false, false_and, true_or, or_true, i1n0, i0e0]
    by_cases c2 : f a = x
    · rw [if_pos ⟨by omega, c2⟩] at g1
      simp only [c2, true_implies, false_implies, implies_true, not_true_eq_false, not_false_eq_true, not_true, not_false_iff, and_true, true_and, and_false, false_and, true_or, or_true, i1n0, i0e0]
      refine g1 (a + 1) _ rfl h.at_ ?_
      rw [rdI, if_pos ⟨rfl, rfl⟩]
    · rw [if_neg (fun q => c2 q.2)] at g0
      simp only [c2, true_implies, false_implies, implies_true, not_true_eq_false, not_false_eq_true, not_true, not_false_iff, and_true, true_and, and_false, false_and, true_or, or_true, i1n0, i0e0]
      exact g0 _ rfl h.flt
theorem nm_lp {N p j i n c d : Nat} {B : Sx} {lo hi : Int32} {f : Nat → Int32} {st : Nat} {post : Int32 → Sx → Prop} (hp : p < B.2.2 6) (hj : j < 4) (hin : i + n ≤ 60) (hd : d ≤ 3) (hf : ∀ u, u < n → f u = B.1 0 (46 + j) (i + u)) : ∀ m a fuel (S : Sx) (v : Int32), m < fuel → FC B p S j i n c a → a ≤ n → st ≤ a → a + m = st + d → (∀ b S', b ≤ n → (rdn f n m a v).1 = b → FC B p S' j i n c b → (∀ z, 6 ≤ z → S'.1 4 p z = S.1 4 p z) → w_X3_readNumber_82 N p post S' lo hi (nI st) (rdn f n m a v).2) → w_X3_readNumber_18 N p post fuel S (nI d) lo hi (nI st) v := by
  intro m
  induction m with
  | zero =>
    intro a fuel S v hfu h ha hst hm g
    obtain ⟨fu, rfl⟩ : ∃ g, fuel = g + 1 := ⟨fuel - 1, by omega⟩
    obtain ⟨h1, h2, h3, h4, h5, h6, h7, h8⟩ := id h
    have hh := g a S ha rfl h (fun _ _ => rfl)
    simp only [w_X3_readNumber_18, h.p6 hp, h5, h7, nle (show n < 2 ^ 31 by omega) (show a < 2 ^ 31 by omega), pk_sub hst, nle (show d < 2 ^ 31 by omega) (show a - st < 2 ^ 31 by omega), show d ≤ a - st by omega, true_implies, false_implies, implies_true, not_true_eq_false, not_false_eq_true, not_true, not_false_iff, and_true, true_and, and_false, false_and, true_or, or_true, i1n0, i0e0]
    exact ⟨fun _ => hh, fun _ => hh⟩
  | succ m ih =>
    intro a fuel S v hfu h ha hst hm g
    obtain ⟨fu, rfl⟩ : ∃ g, fuel = g + 1 := ⟨fuel - 1, by omega⟩
    obtain ⟨h1, h2, h3, h4, h5, h6, h7, h8⟩ := id h
    simp only [w_X3_readNumber_18, h.p6 hp, h5, h7, nle (show n < 2 ^ 31 by omega) (show a < 2 ^ 31 by omega), pk_sub hst, nle (show d < 2 ^ 31 by omega) (show a - st < 2 ^ 31 by omega), show ¬ d ≤ a - st by omega, true_implies, false_implies, implies_true, not_true_eq_false, not_false_eq_true, not_true, not_false_iff, and_true, true_and, and_false, false_and, true_or, or_true, i1n0, i0e0]
    by_cases c1 : n ≤ a
    · have hh := g a S ha (by rw [rdn_n (fun q => by omega)]) h (fun _ _ => rfl)
      rw [rdn_n (fun q => by omega)] at hh
      simp only [c1, true_implies, false_implies, implies_true, not_true_eq_false, not_false_eq_true, not_true, not_false_iff, and_true, true_and, and_false, false_and, true_or, or_true, i1n0, i0e0]
      exact hh
    simp only [c1, true_implies, false_implies, implies_true, not_true_eq_false, not_false_eq_true, not_true, not_false_iff, and_true, true_and, and_false, false_and, true_or, or_true, i1n0, i0e0]
    refine cd_c hp hj hin h (by omega) ?_
    rw [← hf a (by omega)]
    simp only [wi_eq, true_implies, false_implies, implies_true, not_true_eq_false, not_false_eq_true, not_true, not_false_iff, and_true, true_and, and_false, false_and, true_or, or_true, i1n0, i0e0]
    by_cases c2 : wi (f a) 48 57
    case neg =>
      have hh := g a S ha (by rw [rdn_n (fun q => c2 q.2)]) h (fun _ _ => rfl)
      rw [rdn_n (fun q => c2 q.2)] at hh
      simp only [c2, true_implies, false_implies, implies_true, not_true_eq_false, not_false_eq_true, not_true, not_false_iff, and_true, true_and, and_false, false_and, true_or, or_true, i1n0, i0e0]
      exact hh
    simp only [c2, true_implies, false_implies, implies_true, not_true_eq_false, not_false_eq_true, not_true, not_false_iff, and_true, true_and, and_false, false_and, true_or, or_true, i1n0, i0e0, h.p6 hp]
    refine cd_c hp hj hin h (by omega) ?_
    rw [← hf a (by omega)]
    simp only [h.p6 hp, h7, forall_eq, nI_1, true_implies, false_implies, implies_true, not_true_eq_false, not_false_eq_true, not_true, not_false_iff, and_true, true_and, and_false, false_and, true_or, or_true, i1n0, i0e0]
    refine ih (a + 1) fu _ _ (by omega) h.at_ (by omega) (by omega) (by omega) (fun b S' hb e1 e2 e3 => ?_)
    have hh := g b S' hb (by rw [rdn_y ⟨by omega, c2⟩]; exact e1) e2 (fun z hz => by rw [e3 z hz, rdI, if_pos ⟨rfl, rfl⟩, rdU, if_neg (by omega)])
    rw [rdn_y ⟨by omega, c2⟩] at hh
    exact hh
theorem nm_c {N p j i n c a d : Nat} {B S : Sx} {lo hi : Int32} {f : Nat → Int32} {post : Int32 → Sx → Prop} (hN : 20000 ≤ N) (hp : p < B.2.2 6) (hj : j < 4) (hin : i + n ≤ 60) (hd : d ≤ 3) (hf : ∀ u, u < n → f u = B.1 0 (46 + j) (i + u)) (h : FC B p S j i n c a) (ha : a ≤ n) (g1 : ∀ v b S', pnm f n d lo hi a = some (v, b) → FC B p S' j i n c b → (∀ z, 6 ≤ z → S'.1 4 p z = S.1 4 p z) → post v S') (g0 : ∀ v S', pnm f n d lo hi a = none → FF B p S' a → post v S') : w_X3_readNumber N p (nI d) lo hi S post := by
  obtain ⟨h1, h2, h3, h4, h5, h6, h7, h8⟩ := id h
  simp only [w_X3_readNumber, w_X3_isFaulty, h.p6 hp, h8, h7, true_implies, false_implies, implies_true, not_true_eq_false, not_false_eq_true, not_true, not_false_iff, and_true, true_and, and_false, false_and, true_or, or_true, i1n0, i0e0, forall_eq]
  refine nm_lp (st := a) hp hj hin hd hf d a N S 0 (by omega) h ha (Nat.le_refl _) (by omega) (fun b S' hb e1 e2 e3 => ?_)
  unfold pnm at g1 g0
  rw [e1] at g1 g0
  simp only [w_X3_readNumber_82, w_X3_readNumber_101, e2.p6 hp, e2.2.2.2.2.2.2.1, wi_eq, true_implies, false_implies, implies_true, not_true_eq_false, not_false_eq_true, not_true, not_false_iff, and_true, true_and, and_false, false_and, true_or, or_true, i1n0, i0e0, forall_eq, neq (show b < 2 ^ 31 by omega) (show a < 2 ^ 31 by omega)]
  by_cases c1 : b = a
  · rw [if_pos (Or.inl c1)] at g0
    simp only [c1, true_implies, false_implies, implies_true, not_true_eq_false, not_false_eq_true, not_true, not_false_iff, and_true, true_and, and_false, false_and, true_or, or_true, i1n0, i0e0]
    exact g0 _ _ rfl e2.flt
  · by_cases c2 : wi (rdn f n d a 0).2 lo hi
    · rw [if_neg (fun q => q.elim c1 (fun w => w c2))] at g1
      simp only [c1, c2, true_implies, false_implies, implies_true, not_true_eq_false, not_false_eq_true, not_true, not_false_iff, and_true, true_and, and_false, false_and, true_or, or_true, i1n0, i0e0]
      exact g1 _ b S' rfl e2 e3
    · rw [if_pos (Or.inr c2)] at g0
      simp only [c1, c2, true_implies, false_implies, implies_true, not_true_eq_false, not_false_eq_true, not_true, not_false_iff, and_true, true_and, and_false, false_and, true_or, or_true, i1n0, i0e0]
      exact g0 _ _ rfl e2.flt
