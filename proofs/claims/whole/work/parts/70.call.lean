/-! the best call: sets of camps, worths -/
theorem sg_and : ∀ g, g < 128 → ∀ t, t < 128 → nI g &&& nI t = nI (g &&& t) := by decide +kernel
theorem sb_bs : ∀ t, t < 128 → ∀ g, g < 128 → g &&& t = g → ∀ c, c < 7 → bt (t - g) c + bt g c = bt t c := by decide +kernel
theorem sb_sub (t : Nat) (ht : t < 128) (g : Nat) (hg : g < 128) (h : g &&& t = g) : g ≤ t ∧ ∀ c, c < 7 → (bt (t - g) c = 1 ↔ bt t c = 1 ∧ ¬ bt g c = 1) := by
  refine ⟨by rw [← h]; exact Nat.and_le_right, fun c hc => ?_⟩
  have h1 := sb_bs t ht g hg h c hc
  have h2 := bt_01 (t - g) c
  have h3 := bt_01 g c
  have h4 := bt_01 t c
  omega
theorem sb_of : ∀ t, t < 128 → ∀ g, g < 128 → (∀ c, c < 7 → bt g c = 1 → bt t c = 1) → g &&& t = g := by decide +kernel
theorem sb_bt : ∀ t, t < 128 → ∀ g, g < 128 → g &&& t = g → ∀ c, c < 7 → bt g c = 1 → bt t c = 1 := by decide +kernel
theorem sb_nx : ∀ t, t < 128 → ∀ g, g < 128 → g &&& t = g → ∀ u, u < g → u &&& t = u → u ≤ (g - 1) &&& t := by decide +kernel
theorem bt_ext : ∀ t, t < 128 → (∀ c, c < 7 → ¬ bt t c = 1) → t = 0 := by decide +kernel
theorem bt_hi {t n c : Nat} (h : t < 2 ^ n) (hc : n ≤ c) : bt t c = 0 := by
  unfold bt
  rw [Nat.div_eq_of_lt (Nat.lt_of_lt_of_le h (Nat.pow_le_pow_right (by decide) hc))]
theorem mk_ex (G : Nat → Prop) : ∀ n, n ≤ 7 → ∃ g, g < 2 ^ n ∧ g < 128 ∧ ∀ c, c < 7 → (bt g c = 1 ↔ c < n ∧ G c)
  | 0, _ => ⟨0, by decide, by decide, fun c hc => ⟨fun h => absurd h (bt_0 c hc), fun h => absurd h.1 (by omega)⟩⟩
  | n + 1, hn => by
    obtain ⟨g, h1, h2, h3⟩ := mk_ex G n (by omega)
    have hp : 2 ^ n < 2 ^ (n + 1) := Nat.pow_lt_pow_right (by decide) (by omega)
    by_cases e : G n
    · obtain ⟨o1, o2⟩ := bt_or g h2 n (by omega)
      refine ⟨g ||| 2 ^ n, Nat.or_lt_two_pow (by omega) hp, o1, fun c hc => ?_⟩
      rw [o2 c hc]
      by_cases ec : c = n
      · rw [if_pos ec]; exact ⟨fun _ => ⟨by omega, by rw [ec]; exact e⟩, fun _ => rfl⟩
      · rw [if_neg ec, h3 c hc]
        exact ⟨fun h => ⟨by have := h.1; omega, h.2⟩, fun h => ⟨by have := h.1; omega, h.2⟩⟩
    · refine ⟨g, by omega, h2, fun c hc => ?_⟩
      rw [h3 c hc]
      refine ⟨fun h => ⟨by have := h.1; omega, h.2⟩, fun h => ⟨?_, h.2⟩⟩
      by_cases ec : c = n
      · rw [ec] at h; exact absurd h.2 e
      · have := h.1; omega
theorem sN_mulr (f : Nat → Nat) (k : Nat) : ∀ n, sN (fun i => f i * k) n = sN f n * k
  | 0 => (Nat.zero_mul k).symm
  | n + 1 => by rw [sN_s, sN_s, sN_mulr f k n, Nat.add_mul]
def spn (s : Sx) (f : Nat) : Nat := (s.1 0 29 f).toNatClampNeg
theorem sp_e {s : Sx} (hF : IF s) (f : Nat) : s.1 0 29 f = nI (spn s f) ∧ spn s f ≤ 99 := by
  obtain ⟨x, hx, ex⟩ := wi_n (n := 99) (by decide) (hF.2.2.2.2.2.2.2.2.2.1 f)
  unfold spn
  rw [ex, nI_clamp (by omega)]
  exact ⟨rfl, hx⟩
/-- the hour in which those of G hold the fire -/
noncomputable def hg (s : Sx) (cnt f : Nat) (G : Nat → Prop) : Nat := hld (hrn s f) (crn s) G cnt (s.1 0 28 f).toNatClampNeg
theorem hg_le (s : Sx) (cnt f : Nat) (G : Nat → Prop) : hg s cnt f G ≤ 24 := by
  unfold hg hld
  rcases hf : frs (fun h => (s.1 0 28 f).toNatClampNeg ≤ wh (hrn s f) (crn s) G cnt h) 24 0 with _ | x
  · exact Nat.le_refl _
  · obtain ⟨-, x1, -⟩ := frs_some hf
    show x ≤ 24
    omega
noncomputable def tc (s : Sx) (f : Nat) (G : Nat → Prop) : Nat → Nat := sN (fun c => @ite _ (G c) (pd _) (crn s c * 2 ^ 14 + (f + 1) * 4 ^ (6 - c)) 0)
/-- what it is worth to send those of G to the fire -/
noncomputable def tg (s : Sx) (cnt f : Nat) (G : Nat → Prop) : Nat := spn s f * hg s cnt f G * 2 ^ 20 + tc s f G cnt
theorem tg_cong {s : Sx} {cnt f : Nat} {G H : Nat → Prop} (h : ∀ c, c < cnt → (G c ↔ H c)) : tg s cnt f G = tg s cnt f H := by
  unfold tg hg tc
  rw [hld_cong h]
  congr 1
  refine sN_cong (fun c hc => ?_)
  by_cases e : G c
  · rw [if_pos e, if_pos ((h c hc).mp e)]
  · rw [if_neg e, if_neg (fun q => e ((h c hc).mpr q))]
theorem tc_le {s : Sx} (hC : IC s) {f : Nat} (hf : f < 3) (G : Nat → Prop) (n : Nat) : tc s f G n ≤ n * 160000 := sN_le (fun c => by
  show @ite _ _ (pd _) _ _ ≤ 160000
  by_cases e : G c
  · rw [if_pos e]
    have h1 := (cr_e hC c).2
    have h2 : 4 ^ (6 - c) ≤ 4 ^ 6 := Nat.pow_le_pow_right (by decide) (by omega)
    have h3 : (f + 1) * 4 ^ (6 - c) ≤ 3 * 4 ^ 6 := Nat.mul_le_mul (by omega) h2
    have h4 : (3 * 4 ^ 6 : Nat) = 12288 := by decide
    omega
  · rw [if_neg e]; omega) n
theorem tg_le {s : Sx} (hC : IC s) (hF : IF s) {cnt f : Nat} (hc7 : cnt ≤ 7) (hf : f < 3) (G : Nat → Prop) : tg s cnt f G ≤ 2 ^ 34 := by
  unfold tg
  have h1 := tc_le hC hf G cnt
  have h2 : spn s f * hg s cnt f G ≤ 99 * 24 := Nat.mul_le_mul (sp_e hF f).2 (hg_le s cnt f G)
  have h3 : cnt * 160000 ≤ 7 * 160000 := Nat.mul_le_mul_right _ hc7
  have h4 : spn s f * hg s cnt f G * 2 ^ 20 ≤ 2376 * 2 ^ 20 := Nat.mul_le_mul_right _ h2
  have h5 : tc s f G cnt ≤ 1120000 := Nat.le_trans h1 h3
  exact Nat.le_trans (Nat.add_le_add h4 h5) (by decide +kernel)
noncomputable def wg (s : Sx) (cnt : Nat) (a : Nat → Nat) : Nat → Nat := sN (fun g => tg s cnt g (fun c => a c = g + 1))
theorem wg_s (s : Sx) (cnt : Nat) (a : Nat → Nat) (f : Nat) : wg s cnt a (f + 1) = wg s cnt a f + tg s cnt f (fun c => a c = f + 1) := rfl
theorem wg_cong {s : Sx} {cnt f : Nat} {a b : Nat → Nat} (h : ∀ v, v < f → ∀ c, c < cnt → (a c = v + 1 ↔ b c = v + 1)) : wg s cnt a f = wg s cnt b f := sN_cong (fun v hv => tg_cong (fun c hc => h v hv c hc))
theorem wg_le {s : Sx} (hC : IC s) (hF : IF s) {cnt : Nat} (hc7 : cnt ≤ 7) (a : Nat → Nat) : ∀ f, f ≤ 3 → wg s cnt a f ≤ f * 2 ^ 34
  | 0, _ => Nat.le_refl _
  | f + 1, h => by
    rw [wg_s]
    have h1 := wg_le hC hF hc7 a f (by omega)
    have h2 := tg_le hC hF hc7 (show f < 3 by omega) (fun c => a c = f + 1)
    omega
/-- v is the least worth of those calls to the first f fires in which just those of the set t go -/
def BP (s : Sx) (cnt f t v : Nat) : Prop := (∀ a : Nat → Nat, (∀ c, c < cnt → a c ≤ f) → (∀ c, c < cnt → (bt t c = 1 ↔ a c ≠ 0)) → v ≤ wg s cnt a f) ∧ (2 ^ 60 ≤ v ∨ ∃ a : Nat → Nat, (∀ c, c < cnt → a c ≤ f) ∧ (∀ c, c < cnt → (bt t c = 1 ↔ a c ≠ 0)) ∧ v = wg s cnt a f) ∧ v ≤ 2 ^ 60 + f * 2 ^ 34
theorem BP_0 {s : Sx} {cnt : Nat} (hc7 : cnt ≤ 7) : BP s cnt 0 0 0 :=
  ⟨fun a _ _ => Nat.zero_le _, Or.inr ⟨fun _ => 0, fun c _ => Nat.le_refl _, fun c hc => ⟨fun h => absurd h (bt_0 c (by omega)), fun h => absurd rfl h⟩, rfl⟩, by omega⟩
theorem p2_le {cnt : Nat} (hc7 : cnt ≤ 7) : 2 ^ cnt ≤ 128 := Nat.le_trans (Nat.pow_le_pow_right (by decide) hc7) (by decide)
theorem BP_1 {s : Sx} {cnt t : Nat} (hc7 : cnt ≤ 7) (ht : t < 2 ^ cnt) (h0 : t ≠ 0) : BP s cnt 0 t (2 ^ 60) := by
  refine ⟨fun a h1 h2 => ?_, Or.inl (Nat.le_refl _), by omega⟩
  exfalso
  have h128 := p2_le hc7
  refine h0 (bt_ext t (by omega) (fun c hc hb => ?_))
  by_cases e : c < cnt
  · exact (h2 c e).mp hb (by have := h1 c e; omega)
  · rw [bt_hi ht (by omega)] at hb; omega
theorem BP_s {s : Sx} (hC : IC s) (hF : IF s) {cnt f t v : Nat} (hc7 : cnt ≤ 7) (hf : f < 3) (ht : t < 2 ^ cnt) (b : Nat → Nat) (hb : ∀ u, u ≤ t → BP s cnt f u (b u)) (h1 : ∀ g, g < 128 → g &&& t = g → v ≤ b (t - g) + tg s cnt f (fun c => bt g c = 1)) (h2 : ∃ g, g < 128 ∧ g &&& t = g ∧ v = b (t - g) + tg s cnt f (fun c => bt g c = 1)) : BP s cnt (f + 1) t v := by
  have h128 := p2_le hc7
  obtain ⟨g, g1, g2, g3⟩ := h2
  obtain ⟨b1, b2, b3⟩ := hb (t - g) (by omega)
  have g4 := tg_le hC hF hc7 hf (fun c => bt g c = 1)
  obtain ⟨p1, p2⟩ := sb_sub t (by omega) g g1 g2
  refine ⟨fun a a1 a2 => ?_, ?_, by omega⟩
  · obtain ⟨m, m1, m2, m3⟩ := mk_ex (fun c => a c = f + 1) cnt hc7
    have ms : m &&& t = m := sb_of t (by omega) m m2 (fun c hc hbt => by
      have := (m3 c hc).mp hbt
      exact (a2 c this.1).mpr (by have := this.2; omega))
    obtain ⟨q1, q2⟩ := sb_sub t (by omega) m m2 ms
    have l := (hb (t - m) (by omega)).1 (fun c => if a c = f + 1 then 0 else a c) (fun c hc => by
      show (if a c = f + 1 then 0 else a c) ≤ f
      have := a1 c hc
      split <;> omega) (fun c hc => by
      rw [q2 c (by omega), a2 c hc, m3 c (by omega)]
      show _ ↔ (if a c = f + 1 then 0 else a c) ≠ 0
      by_cases e : a c = f + 1
      · rw [if_pos e]; exact ⟨fun h => absurd ⟨hc, e⟩ h.2, fun h => absurd rfl h⟩
      · rw [if_neg e]; exact ⟨fun h => h.1, fun h => ⟨h, fun q => e q.2⟩⟩)
    rw [wg_cong (b := a) (fun v hv c hc => by
      show (if a c = f + 1 then 0 else a c) = v + 1 ↔ _
      split <;> omega)] at l
    have r := h1 m m2 ms
    rw [tg_cong (H := fun c => a c = f + 1) (fun c hc => by
      rw [m3 c (by omega)]
      exact ⟨fun h => h.2, fun h => ⟨hc, h⟩⟩)] at r
    rw [wg_s]
    omega
  · rcases b2 with b2 | ⟨a, a1, a2, a3⟩
    · exact Or.inl (by omega)
    · refine Or.inr ⟨fun c => if bt g c = 1 then f + 1 else a c, fun c hc => ?_, fun c hc => ?_, ?_⟩
      · show (if bt g c = 1 then f + 1 else a c) ≤ f + 1
        have := a1 c hc
        split <;> omega
      · show _ ↔ (if bt g c = 1 then f + 1 else a c) ≠ 0
        have e2 := a2 c hc
        rw [p2 c (by omega)] at e2
        by_cases e : bt g c = 1
        · rw [if_pos e]; exact ⟨fun _ => by omega, fun _ => sb_bt t (by omega) g g1 g2 c (by omega) e⟩
        · rw [if_neg e, ← e2]; exact ⟨fun h => ⟨h, e⟩, fun h => h.1⟩
      · have e1 : wg s cnt a f = wg s cnt (fun c => if bt g c = 1 then f + 1 else a c) f := by
          refine wg_cong (fun v hv c hc => ?_)
          show _ ↔ (if bt g c = 1 then f + 1 else a c) = v + 1
          have e2 := a2 c hc
          rw [p2 c (by omega)] at e2
          by_cases e : bt g c = 1
          · rw [if_pos e]
            have : a c = 0 := Classical.byContradiction (fun q => (e2.mpr q).2 e)
            omega
          · rw [if_neg e]
        have e2 : tg s cnt f (fun c => bt g c = 1) = tg s cnt f (fun c => (if bt g c = 1 then f + 1 else a c) = f + 1) := by
          refine tg_cong (fun c hc => ?_)
          show _ ↔ (if bt g c = 1 then f + 1 else a c) = f + 1
          by_cases e : bt g c = 1
          · rw [if_pos e]; exact ⟨fun _ => rfl, fun _ => e⟩
          · rw [if_neg e]
            have := a1 c hc
            exact ⟨fun h => absurd h e, fun h => by omega⟩
        rw [wg_s, ← e1, ← e2, g3, a3]
/-- behind all fires: the least over all sets is the least over all calls -/
theorem BP_e {s : Sx} (hC : IC s) (hF : IF s) {cnt nfi v : Nat} (hc7 : cnt ≤ 7) (hn3 : nfi ≤ 3) (b : Nat → Nat) (hb : ∀ u, u < 2 ^ cnt → BP s cnt nfi u (b u)) (h1 : ∀ u, u < 2 ^ cnt → v ≤ b u) (h2 : v = 2 ^ 60 ∨ ∃ u, u < 2 ^ cnt ∧ v = b u) : (∀ a : Nat → Nat, (∀ c, c < cnt → a c ≤ nfi) → v ≤ wg s cnt a nfi) ∧ ∃ a : Nat → Nat, (∀ c, c < cnt → a c ≤ nfi) ∧ v = wg s cnt a nfi := by
  have low : ∀ a : Nat → Nat, (∀ c, c < cnt → a c ≤ nfi) → v ≤ wg s cnt a nfi := fun a ha => by
    obtain ⟨m, m1, m2, m3⟩ := mk_ex (fun c => a c ≠ 0) cnt hc7
    exact Nat.le_trans (h1 m m1) ((hb m m1).1 a ha (fun c hc => by
      rw [m3 c (by omega)]
      exact ⟨fun h => h.2, fun h => ⟨hc, h⟩⟩))
  refine ⟨low, ?_⟩
  have l0 := low (fun _ => 0) (fun _ _ => Nat.zero_le _)
  have l1 := wg_le hC hF hc7 (fun _ => 0) nfi hn3
  rcases h2 with h2 | ⟨u, u1, u2⟩
  · omega
  · rcases (hb u u1).2.1 with h | ⟨a, a1, a2, a3⟩
    · omega
    · exact ⟨a, a1, by rw [u2, a3]⟩
