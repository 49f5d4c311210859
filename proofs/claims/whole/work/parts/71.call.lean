/-! the best call: calls as numbers -/
noncomputable def lgn (s : Sx) (cnt : Nat) (a : Nat → Nat) : Nat → Nat := sN (fun f => spn s f * hg s cnt f (fun c => a c = f + 1))
def hnn (s : Sx) (a : Nat → Nat) : Nat → Nat := sN (fun c => if a c = 0 then 0 else crn s c)
def rwn (a : Nat → Nat) : Nat → Nat := sN (fun c => a c * 4 ^ (6 - c))
theorem wg_e {s : Sx} {cnt nfi : Nat} {a : Nat → Nat} (ha : ∀ c, c < cnt → a c ≤ nfi) : wg s cnt a nfi = lgn s cnt a nfi * 2 ^ 20 + hnn s a cnt * 2 ^ 14 + rwn a cnt := by
  have e1 : wg s cnt a nfi = sN (fun f => spn s f * hg s cnt f (fun c => a c = f + 1) * 2 ^ 20) nfi + sN (fun f => tc s f (fun c => a c = f + 1) cnt) nfi := sN_add _ _ nfi
  have e2 : sN (fun f => tc s f (fun c => a c = f + 1) cnt) nfi = sN (fun c => sN (fun f => @ite _ (a c = f + 1) (pd _) (crn s c * 2 ^ 14 + (f + 1) * 4 ^ (6 - c)) 0) nfi) cnt := sN_swap (fun c f => @ite _ (a c = f + 1) (pd _) (crn s c * 2 ^ 14 + (f + 1) * 4 ^ (6 - c)) 0) nfi cnt
  have e3 : sN (fun c => sN (fun f => @ite _ (a c = f + 1) (pd _) (crn s c * 2 ^ 14 + (f + 1) * 4 ^ (6 - c)) 0) nfi) cnt = sN (fun c => (if a c = 0 then 0 else crn s c) * 2 ^ 14 + a c * 4 ^ (6 - c)) cnt := by
    refine sN_cong (fun c hc => ?_)
    have h := ha c hc
    by_cases e : a c = 0
    · rw [if_pos e, e, Nat.zero_mul, Nat.zero_mul]
      exact (sN_cong (fun f _ => if_neg (by omega))).trans (sN_0 nfi)
    · rw [if_neg e]
      refine (sN_one (p := a c - 1) (by omega) (fun f _ hne => if_neg (by omega))).trans ?_
      show @ite _ (a c = a c - 1 + 1) (pd _) (crn s c * 2 ^ 14 + (a c - 1 + 1) * 4 ^ (6 - c)) 0 = _
      rw [if_pos (by omega), show a c - 1 + 1 = a c by omega]
  have e4 : sN (fun c => (if a c = 0 then 0 else crn s c) * 2 ^ 14 + a c * 4 ^ (6 - c)) cnt = sN (fun c => (if a c = 0 then 0 else crn s c) * 2 ^ 14) cnt + rwn a cnt := sN_add _ _ cnt
  have e5 : sN (fun c => (if a c = 0 then 0 else crn s c) * 2 ^ 14) cnt = hnn s a cnt * 2 ^ 14 := sN_mulr _ _ cnt
  have e6 : sN (fun f => spn s f * hg s cnt f (fun c => a c = f + 1) * 2 ^ 20) nfi = lgn s cnt a nfi * 2 ^ 20 := sN_mulr _ _ nfi
  rw [e1, e2, e3, e4, e5, e6]
  omega
theorem dg_ex {B : Nat} (hB : 0 < B) (a : Nat → Nat) : ∀ n, (∀ c, c < n → a c < B) → ∃ x, x < B ^ n ∧ ∀ c, c < n → dg B n x c = a c
  | 0, _ => ⟨0, by rw [Nat.pow_zero]; omega, fun c h => by omega⟩
  | n + 1, h => by
    obtain ⟨x, h1, h2⟩ := dg_ex hB a n (fun c hc => h c (by omega))
    have hn := h n (by omega)
    have e1 : (B * x + a n) / B = x := by rw [Nat.mul_add_div hB, Nat.div_eq_of_lt hn, Nat.add_zero]
    have e2 : (B * x + a n) % B = a n := by rw [Nat.mul_add_mod, Nat.mod_eq_of_lt hn]
    refine ⟨B * x + a n, ?_, fun c hc => ?_⟩
    · have h3 : B * (x + 1) ≤ B * B ^ n := Nat.mul_le_mul_left _ h1
      rw [Nat.mul_add, Nat.mul_one] at h3
      rw [Nat.pow_succ, Nat.mul_comm (B ^ n) B]
      omega
    · show (if c = n then (B * x + a n) % B else dg B n ((B * x + a n) / B) c) = a c
      rw [e1, e2]
      by_cases e : c = n
      · rw [if_pos e, e]
      · rw [if_neg e]; exact h2 c (by omega)
theorem rw_s {B n x : Nat} : rwn (dg B (n + 1) x) (n + 1) = rwn (dg B n (x / B)) n + x % B * 4 ^ (6 - n) := by
  unfold rwn
  have e : dg B (n + 1) x n = x % B := if_pos rfl
  rw [sN_s, e, sN_cong (g := fun c => dg B n (x / B) c * 4 ^ (6 - c)) (fun c hc => by
    have : dg B (n + 1) x c = dg B n (x / B) c := if_neg (by omega)
    rw [this])]
theorem p4_s {n : Nat} (h : n < 7) : 4 ^ (7 - n) = 4 * 4 ^ (6 - n) := by rw [show 7 - n = (6 - n) + 1 by omega, Nat.pow_succ, Nat.mul_comm]
theorem rw_m {B : Nat} (hB0 : 0 < B) (hB : B ≤ 4) : ∀ n x y, n ≤ 7 → y < B ^ n → x < y → rwn (dg B n x) n + 4 ^ (7 - n) ≤ rwn (dg B n y) n
  | 0, x, y, _, h, h2 => by rw [Nat.pow_zero] at h; omega
  | n + 1, x, y, hn, h, h2 => by
    rw [rw_s, rw_s, show 7 - (n + 1) = 6 - n by omega]
    have hp := p4_s (n := n) (by omega)
    have m1 : x % B < B := Nat.mod_lt _ hB0
    have hyd : y / B < B ^ n := Nat.div_lt_of_lt_mul (by rw [Nat.mul_comm, ← Nat.pow_succ]; exact h)
    have hle : x / B ≤ y / B := Nat.div_le_div_right (by omega)
    by_cases e : x / B = y / B
    · have hx := Nat.div_add_mod x B
      have hy := Nat.div_add_mod y B
      rw [e] at hx ⊢
      have h3 : x % B + 1 ≤ y % B := by omega
      have h4 := Nat.mul_le_mul_right (4 ^ (6 - n)) h3
      rw [Nat.add_mul, Nat.one_mul] at h4
      omega
    · have ih := rw_m hB0 hB n (x / B) (y / B) (by omega) hyd (by omega)
      have h4 : x % B * 4 ^ (6 - n) ≤ 3 * 4 ^ (6 - n) := Nat.mul_le_mul_right _ (by omega)
      rw [hp] at ih
      omega
theorem rw_b {a : Nat → Nat} (ha : ∀ c, a c ≤ 3) : ∀ n, n ≤ 7 → rwn a n + 4 ^ (7 - n) ≤ 16384
  | 0, _ => by
    show 0 + 4 ^ 7 ≤ 16384
    decide
  | n + 1, h => by
    have e : rwn a (n + 1) = rwn a n + a n * 4 ^ (6 - n) := rfl
    have ih := rw_b ha n (by omega)
    rw [p4_s (by omega)] at ih
    have h4 : a n * 4 ^ (6 - n) ≤ 3 * 4 ^ (6 - n) := Nat.mul_le_mul_right _ (ha n)
    rw [e, show 7 - (n + 1) = 6 - n by omega]
    omega
theorem rw_lt {a : Nat → Nat} (ha : ∀ c, a c ≤ 3) {n : Nat} (h : n ≤ 7) : rwn a n < 2 ^ 14 := by
  have h1 := rw_b ha n h
  have h2 : 0 < 4 ^ (7 - n) := Nat.pow_pos (by decide)
  omega
theorem hn_le {s : Sx} (hC : IC s) (a : Nat → Nat) (n : Nat) : hnn s a n ≤ n * 9 := sN_le (fun c => by
  show (if a c = 0 then 0 else crn s c) ≤ 9
  have := (cr_e hC c).2
  split <;> omega) n
theorem lg_le {s : Sx} (hF : IF s) (cnt : Nat) (a : Nat → Nat) (n : Nat) : lgn s cnt a n ≤ n * 2376 := sN_le (fun f => by
  show spn s f * hg s cnt f _ ≤ 2376
  exact Nat.le_trans (Nat.mul_le_mul (sp_e hF f).2 (hg_le s cnt f _)) (by decide)) n
noncomputable def ky (s : Sx) (cnt nfi x : Nat) : Nat := lgn s cnt (dg (nfi + 1) cnt x) nfi * 64 + hnn s (dg (nfi + 1) cnt x) cnt
theorem dg_le {nfi : Nat} (hn3 : nfi ≤ 3) (cnt x c : Nat) : dg (nfi + 1) cnt x c ≤ 3 := by have := dg_lt (B := nfi + 1) (by omega) cnt x c; omega
theorem en_a {A B p q v : Nat} (h0 : v = A * 2 ^ 14 + p) (h1 : v ≤ B * 2 ^ 14 + q) (hq : q < 2 ^ 14) (h : B < A) : False := by omega
theorem en_b {A B p q r v : Nat} (h0 : v = A * 2 ^ 14 + p) (h1 : v ≤ B * 2 ^ 14 + q) (h2 : B ≤ A) (h : q + r ≤ p) (hr : 0 < r) : False := by omega
/-- the least worth is that of the first call of those with the least loss and the fewest hands -/
theorem enc_b {s : Sx} {cnt nfi v b : Nat} (hc7 : cnt ≤ 7) (hn3 : nfi ≤ 3) (hl : ∀ a : Nat → Nat, (∀ c, c < cnt → a c ≤ nfi) → v ≤ wg s cnt a nfi) (hg : ∃ a : Nat → Nat, (∀ c, c < cnt → a c ≤ nfi) ∧ v = wg s cnt a nfi) (k1 : ∀ x, x < (nfi + 1) ^ cnt → ky s cnt nfi b ≤ ky s cnt nfi x) (k2 : ∀ x, x < b → ky s cnt nfi b < ky s cnt nfi x) : v = ky s cnt nfi b * 2 ^ 14 + rwn (dg (nfi + 1) cnt b) cnt := by
  have hd : ∀ x c, c < cnt → dg (nfi + 1) cnt x c ≤ nfi := fun x c _ => by have := dg_lt (B := nfi + 1) (by omega) cnt x c; omega
  have en : ∀ x, wg s cnt (dg (nfi + 1) cnt x) nfi = ky s cnt nfi x * 2 ^ 14 + rwn (dg (nfi + 1) cnt x) cnt := fun x => by
    rw [wg_e (hd x)]
    unfold ky
    omega
  obtain ⟨a, a1, a2⟩ := hg
  obtain ⟨y, y1, y2⟩ := dg_ex (B := nfi + 1) (by omega) a cnt (fun c hc => by have := a1 c hc; omega)
  have ey : wg s cnt a nfi = wg s cnt (dg (nfi + 1) cnt y) nfi := wg_cong (fun v _ c hc => by rw [y2 c hc])
  have ev : v = ky s cnt nfi y * 2 ^ 14 + rwn (dg (nfi + 1) cnt y) cnt := by rw [a2, ey, en]
  have lb := hl (dg (nfi + 1) cnt b) (hd b)
  rw [en] at lb
  have r1 := rw_lt (dg_le hn3 cnt y) hc7
  have r2 := rw_lt (dg_le hn3 cnt b) hc7
  have r3 := k1 y y1
  rcases Nat.lt_trichotomy y b with h | h | h
  · exact (en_a ev lb r2 (k2 y h)).elim
  · rw [ev, h]
  · have h3 := rw_m (B := nfi + 1) (by omega) (by omega) cnt b y hc7 y1 h
    exact (en_b ev lb r3 h3 (Nat.pow_pos (by decide))).elim
theorem dg_0 {B : Nat} : ∀ n x c, n ≤ c → dg B n x c = 0
  | 0, _, _, _ => rfl
  | n + 1, x, c, h => by
    show (if c = n then x % B else dg B n (x / B) c) = 0
    rw [if_neg (by omega)]
    exact dg_0 n _ c (by omega)
theorem dec_g {a : Nat → Nat} {cnt k : Nat} (hc7 : cnt ≤ 7) (ha : ∀ c, a c ≤ 3) (h0 : ∀ c, cnt ≤ c → a c = 0) {c : Nat} (hc : c < 7) : (k * 2 ^ 14 + rwn a cnt) / 2 ^ (2 * (6 - c)) % 4 = a c := by
  have e : rwn a cnt = rwn a 7 := (sN_z hc7 (fun i h1 _ => by show a i * 4 ^ (6 - i) = 0; rw [h0 i h1, Nat.zero_mul])).symm
  have e7 : rwn a 7 = 0 + a 0 * 4096 + a 1 * 1024 + a 2 * 256 + a 3 * 64 + a 4 * 16 + a 5 * 4 + a 6 * 1 := rfl
  rw [e, e7]
  have h0 := ha 0
  have h1 := ha 1
  have h2 := ha 2
  have h3 := ha 3
  have h4 := ha 4
  have h5 := ha 5
  have h6 := ha 6
  have hcs : c = 0 ∨ c = 1 ∨ c = 2 ∨ c = 3 ∨ c = 4 ∨ c = 5 ∨ c = 6 := by omega
  rcases hcs with rfl | rfl | rfl | rfl | rfl | rfl | rfl
  · show _ / 4096 % 4 = _; omega
  · show _ / 1024 % 4 = _; omega
  · show _ / 256 % 4 = _; omega
  · show _ / 64 % 4 = _; omega
  · show _ / 16 % 4 = _; omega
  · show _ / 4 % 4 = _; omega
  · show _ / 1 % 4 = _; omega
theorem and_m {n : Nat} {m : Int32} (k : Nat) (hk : k ≤ 32) (hm : m.toBitVec.toNat = 2 ^ k - 1) : nI n &&& m = nI (n % 2 ^ k) := by
  rw [pk_and _ k hm]
  have e : (nI n).toBitVec.toNat = n % 2 ^ 32 := BitVec.toNat_ofNat ..
  rw [e, Nat.mod_mod_of_dvd n (Nat.pow_dvd_pow 2 hk)]
theorem bw_I {a : Nat} (h : a < 2 ^ 63) : (lN a).toInt = (a : Int) := pk_lT h
theorem bw_shr {a d : Nat} {D : Int64} (hD : (D.toBitVec.smod 64).toNat = d) (h : a < 2 ^ 62) : lN a >>> D = lN (a / 2 ^ d) := by
  have hd : a / 2 ^ d ≤ a := Nat.div_le_self _ _
  apply Int64.toInt_inj.mp
  have e : (lN a >>> D).toInt = (lN a).toInt >>> d := by
    rw [← hD]
    exact BitVec.toInt_sshiftRight ..
  rw [e, Int.shiftRight_eq_div_pow, pk_lT (by omega), pk_lT (by omega)]
  rfl
theorem bw_rb : ∀ c, c < 7 → ((((2 : Int32) * (6 - nI c)).toInt64 &&& 63).toBitVec.smod 64).toNat = 2 * (6 - c) := by decide +kernel
theorem bw_14 : ((((14 : Int32).toInt64 &&& 63)).toBitVec.smod 64).toNat = 14 := by decide +kernel
theorem bw_20 : ((((20 : Int32).toInt64 &&& 63)).toBitVec.smod 64).toNat = 20 := by decide +kernel
theorem bw_go {v c : Nat} (hv : v < 2 ^ 62) (hc : c < 7) : ((lN v >>> (((2 : Int32) * (6 - nI c)).toInt64 &&& 63)).toInt32) &&& 3 = nI (v / 2 ^ (2 * (6 - c)) % 4) := by
  rw [bw_shr (bw_rb c hc) hv, lN_i, and_m 2 (by decide) (by decide)]
theorem bw_hn {v : Nat} (hv : v < 2 ^ 62) : ((lN v >>> ((14 : Int32).toInt64 &&& 63)).toInt32) &&& 63 = nI (v / 2 ^ 14 % 64) := by
  rw [bw_shr bw_14 hv, lN_i, and_m 6 (by decide) (by decide)]
theorem bw_lo {v : Nat} (hv : v < 2 ^ 62) : ((lN v >>> ((20 : Int32).toInt64 &&& 63)).toInt32) = nI (v / 2 ^ 20) := by
  rw [bw_shr bw_20 hv, lN_i]
theorem bw_sl (n : Nat) : lN n <<< ((20 : Int32).toInt64 &&& 63) = lN (n * 2 ^ 20) := by
  have e1 : ((20 : Int32).toInt64 &&& 63) = lN 20 := by decide +kernel
  have e2 : (BitVec.ofNat 64 20).smod 64 = BitVec.ofNat 64 20 := by decide +kernel
  rw [e1]
  apply Int64.toBitVec_inj.mp
  show (lN n <<< lN 20).toBitVec = BitVec.ofNat 64 (n * 2 ^ 20)
  rw [Int64.toBitVec_shiftLeft, show (lN n).toBitVec = BitVec.ofNat 64 n from rfl, show (lN 20).toBitVec = BitVec.ofNat 64 20 from rfl, e2]
  apply BitVec.eq_of_toNat_eq
  rw [BitVec.shiftLeft_eq', BitVec.toNat_shiftLeft, BitVec.toNat_ofNat, BitVec.toNat_ofNat, BitVec.toNat_ofNat, Nat.mod_eq_of_lt (show 20 < 2 ^ 64 by omega), Nat.shiftLeft_eq, Nat.mul_mod, Nat.mod_mod, ← Nat.mul_mod]
