noncomputable def plo (f : Nat → Int32) (n cnt : Nat) : Nat → Nat → Int32 → Except Nat Int32
  | 0, a, _ => .error a
  | m + 1, a, k => @ite _ (a < n ∧ wi (f a) 48 57 ∧ wi (f a - 48) 0 (nI cnt - 1) ∧ ((k >>> ((f a - 48) &&& 31)) &&& 1) = 0) (pd _) (if a + 1 < n then plo f n cnt m (a + 1) (k ||| (1 <<< ((f a - 48) &&& 31))) else .ok (k ||| (1 <<< ((f a - 48) &&& 31)))) (.error a)
theorem plo_y {f : Nat → Int32} {n cnt m a : Nat} {k : Int32} (h : a < n ∧ wi (f a) 48 57 ∧ wi (f a - 48) 0 (nI cnt - 1) ∧ ((k >>> ((f a - 48) &&& 31)) &&& 1) = 0) : plo f n cnt (m + 1) a k = (if a + 1 < n then plo f n cnt m (a + 1) (k ||| (1 <<< ((f a - 48) &&& 31))) else .ok (k ||| (1 <<< ((f a - 48) &&& 31)))) := by
  conv => lhs; unfold plo
  rw [if_pos h]
theorem plo_n {f : Nat → Int32} {n cnt m a : Nat} {k : Int32} (h : ¬ (a < n ∧ wi (f a) 48 57 ∧ wi (f a - 48) 0 (nI cnt - 1) ∧ ((k >>> ((f a - 48) &&& 31)) &&& 1) = 0)) : plo f n cnt (m + 1) a k = .error a := by
  conv => lhs; unfold plo
  rw [if_neg h]
theorem z48 (x : Int32) : ((10 * 0) + x) - 48 = x - 48 := by rw [Int32.mul_zero, Int32.zero_add]
theorem pnm1 {f : Nat → Int32} {n a : Nat} {lo hi : Int32} : (a < n ∧ wi (f a) 48 57 ∧ wi (f a - 48) lo hi → pnm f n 1 lo hi a = some (f a - 48, a + 1)) ∧ (¬ (a < n ∧ wi (f a) 48 57 ∧ wi (f a - 48) lo hi) → pnm f n 1 lo hi a = none) := by
  unfold pnm
  by_cases c : a < n ∧ wi (f a) 48 57
  · have e : rdn f n 1 a 0 = (a + 1, f a - 48) := by rw [rdn_y c, z48]; rfl
    rw [e]
    refine ⟨fun h => ?_, fun h => ?_⟩
    · rw [if_neg]
      exact fun q => q.elim (fun q => by simp at q) (fun q => q h.2.2)
    · rw [if_pos]
      exact Or.inr (fun q => h ⟨c.1, c.2, q⟩)
  · have e : rdn f n 1 a 0 = (a, 0) := rdn_n c
    rw [e]
    refine ⟨fun h => absurd ⟨h.1, h.2.1⟩ c, fun _ => if_pos (Or.inl rfl)⟩
theorem FF.all {B S : Sx} {p q z : Nat} {v : Int32} {Q : Sx → Prop} (h : FF B p S q) (hz : 6 ≤ z) (g : ∀ S', FF B p S' q → Q S') : ∀ s', s' = setI S 4 p z v → Q s' := fun s' e => by rw [e]; exact g _ (h.set hz)
theorem n7_ {t : Nat} (h : t ≤ 7) : (7 < nI t) = False := by
  rw [show (7 : Int32) = nI 7 from rfl, nlt (by decide) (by omega)]
  exact eq_false (by omega)
theorem n0_ {t : Nat} (h : t ≤ 7) : (nI t = 0) = (t = 0) := by
  rw [show (0 : Int32) = nI 0 from rfl, neq (by omega) (by decide)]
theorem bc_7 : ∀ t, t < 128 → bc t ≤ 7 := by decide +kernel
theorem bc_o7 : ∀ t, t < 128 → ∀ v, v < 7 → bt t v = 0 → bc (t ||| 2 ^ v) = bc t + 1 ∧ t ||| 2 ^ v < 128 := by decide +kernel
theorem bt_n0 {t v : Nat} (h : nI (bt t v) = 0) : bt t v = 0 := by
  have : bt t v < 2 := Nat.mod_lt _ (by decide)
  rw [n0_ (by omega)] at h
  exact h
theorem cm_n {x : Int32} {c : Nat} (hc : c ≤ 7) (h : wi x 0 (nI c - 1)) : ∃ v, v < 7 ∧ x = nI v := by
  cases c with
  | zero =>
    have h2 := wi_i.mp h
    rw [show (nI 0 - 1 : Int32).toInt = -1 from by decide, show (0 : Int32).toInt = 0 from by decide] at h2
    omega
  | succ c =>
    rw [nI_pred] at h
    obtain ⟨v, hv, e⟩ := wi_n (by omega) h
    exact ⟨v, by omega, e⟩
/-- the round's head, with a fault -/
theorem lo_e {N p q fuel : Nat} {B S : Sx} {x1 : Int32} {post : Sx → Prop} (hp : p < B.2.2 6) (hq : q < 100) (h : FF B p S q) (hfu : 0 < fuel) (g : post S) : w_X3_readLeftOut_8 N p post fuel S x1 := by
  obtain ⟨fu, rfl⟩ : ∃ g, fuel = g + 1 := ⟨fuel - 1, by omega⟩
  simp only [w_X3_readLeftOut_8, w_X3_isFaulty, h.p6 hp, h.2.2, nm1 q (by omega), true_implies, false_implies, implies_true, not_true_eq_false, not_false_eq_true, not_true, not_false_iff, and_true, true_and, and_false, false_and, true_or, or_true, i1n0, i0e0]
  exact ⟨fun _ => g, fun _ => g⟩
/-- the round's head, without one -/
theorem lo_h {N p j i n c a t fuel : Nat} {B S : Sx} {post : Sx → Prop} (hp : p < B.2.2 6) (hin : i + n ≤ 60) (h : FC B p S j i n c a) (ha : a ≤ n) (ht : t ≤ 7) (g : t = 0 ∨ a < n → w_X3_readLeftOut_36 N p post (w_X3_readLeftOut_8 N p post fuel) S (nI t)) (g' : ¬ (t = 0 ∨ a < n) → post S) : w_X3_readLeftOut_8 N p post (fuel + 1) S (nI t) := by
  obtain ⟨h1, h2, h3, h4, h5, h6, h7, h8⟩ := id h
  simp only [w_X3_readLeftOut_8, n7_ ht, n0_ ht, w_X3_isFaulty, h.p6 hp, h5, h7, h8, nle (show n < 2 ^ 31 by omega) (show a < 2 ^ 31 by omega), true_implies, false_implies, implies_true, not_true_eq_false, not_false_eq_true, not_true, not_false_iff, and_true, true_and, and_false, false_and, true_or, or_true, i1n0, i0e0]
  exact ⟨fun q => g (Or.inl q), fun q => ⟨fun w => g' (by omega), fun w => g (Or.inr (by omega))⟩⟩
theorem lo_f {N p q : Nat} {B S : Sx} {post : Sx → Prop} (hN : 20000 ≤ N) (hp : p < B.2.2 6) (hq : q < 100) (h : FF B p S q) (g : ∀ S', FF B p S' q → post S') : w_X3_readLeftOut N p S post :=
  ⟨h.p6 hp, sg_f hp hq h (lo_e hp hq h (by omega) (g _ h))⟩
/-- t camps are told, K is their set: no more than seven can be, so the count never ends the rounds -/
theorem lo_c {N p j i n c : Nat} {B : Sx} {f : Nat → Int32} {post : Sx → Prop} (hN : 20000 ≤ N) (hp : p < B.2.2 6) (hj : j < 4) (hin : i + n ≤ 60) (hc7 : c ≤ 7) (hf : ∀ u, u < n → f u = B.1 0 (46 + j) (i + u)) : ∀ m a t K fuel (S : Sx), m + 1 < fuel → n - a ≤ m → K < 128 → bc K = t → (t = 0 ∨ a < n) → S.1 4 p 11 = nI K → FC B p S j i n c a → a ≤ n → (∀ k S', plo f n c (m + 1) a (S.1 4 p 11) = .ok k → S'.2 = B.2 → (∀ z, z ≠ 4 → S'.1 z = B.1 z) → S'.1 4 p 5 = (-1) → S'.1 4 p 11 = k → (∀ z, 6 ≤ z → z < 11 → S'.1 4 p z = S.1 4 p z) → post S') → (∀ q S', plo f n c (m + 1) a (S.1 4 p 11) = .error q → q < 100 → FF B p S' q → post S') → w_X3_readLeftOut_8 N p post fuel S (nI t) := by
  intro m
  induction m with
  | zero =>
    intro a t K fuel S hfu hm hK hb ht hk h ha g1 g0
    obtain ⟨fu, rfl⟩ : ∃ g, fuel = g + 1 := ⟨fuel - 1, by omega⟩
    obtain ⟨h1, h2, h3, h4, h5, h6, h7, h8⟩ := id h
    have hb7 := bc_7 K hK
    refine lo_h hp hin h ha (by omega) (fun _ => ?_) (fun q => absurd ht q)
    simp only [w_X3_readLeftOut_36, h.p6 hp, forall_eq, true_implies, false_implies, implies_true, not_true_eq_false, not_false_eq_true, not_true, not_false_iff, and_true, true_and, and_false, false_and, true_or, or_true, i1n0, i0e0, h6]
    rw [plo_n (fun q => by omega)] at g0
    refine nm_c (d := 1) hN hp hj hin (by decide) hf h ha (fun v b S' e _ _ => ?_) (fun v S' e hF => ?_)
    · rw [pnm1.2 (fun q => by omega)] at e; simp at e
    · have hF2 := hF.set (s_ := 11) (v := S'.1 4 p 11 ||| (1 <<< (v &&& 31))) (by decide)
      simp only [w_X3_isFaulty, w_X3_readLeftOut_77, hF.p6 hp, hF.2.2, nm1 a (by omega), forall_eq, true_implies, false_implies, implies_true, not_true_eq_false, not_false_eq_true, not_true, not_false_iff, and_true, true_and, and_false, false_and, true_or, or_true, i1n0, i0e0]
      exact lo_e hp (by omega) hF2 (by omega) (g0 a _ rfl (by omega) hF2)
  | succ m ih =>
    intro a t K fuel S hfu hm hK hb ht hk h ha g1 g0
    obtain ⟨fu, rfl⟩ : ∃ g, fuel = g + 1 := ⟨fuel - 1, by omega⟩
    obtain ⟨h1, h2, h3, h4, h5, h6, h7, h8⟩ := id h
    have hb7 := bc_7 K hK
    refine lo_h hp hin h ha (by omega) (fun _ => ?_) (fun q => absurd ht q)
    simp only [w_X3_readLeftOut_36, h.p6 hp, forall_eq, true_implies, false_implies, implies_true, not_true_eq_false, not_false_eq_true, not_true, not_false_iff, and_true, true_and, and_false, false_and, true_or, or_true, i1n0, i0e0, h6]
    refine nm_c (d := 1) hN hp hj hin (by decide) hf h ha (fun v b S' e hC hz => ?_) (fun v S' e hF => ?_)
    · by_cases c : a < n ∧ wi (f a) 48 57 ∧ wi (f a - 48) 0 (nI c - 1)
      case neg => rw [pnm1.2 c] at e; simp at e
      rw [pnm1.1 c] at e
      simp only [Option.some.injEq, Prod.mk.injEq] at e
      obtain ⟨rfl, rfl⟩ := e
      have e11 : S'.1 4 p 11 = S.1 4 p 11 := hz 11 (by decide)
      have hC2 := hC.set (s_ := 11) (v := S.1 4 p 11 ||| (1 <<< ((f a - 48) &&& 31))) (by decide)
      simp only [w_X3_isFaulty, hC.p6 hp, hC.2.2.2.2.2.2.2, true_implies, false_implies, implies_true, not_true_eq_false, not_false_eq_true, not_true, not_false_iff, and_true, true_and, and_false, false_and, true_or, or_true, i1n0, i0e0, e11]
      by_cases c2 : ((S.1 4 p 11 >>> ((f a - 48) &&& 31)) &&& 1) = 0
      · rw [plo_y ⟨c.1, c.2.1, c.2.2, c2⟩] at g1 g0
        obtain ⟨w, hw, ew⟩ := cm_n hc7 c.2.2
        have ek : S.1 4 p 11 ||| (1 <<< ((f a - 48) &&& 31)) = nI (K ||| 2 ^ w) := by rw [hk, ew, or_bt K (by omega) w (by omega)]
        have eb : bt K w = 0 := bt_n0 (by rw [← sh_bt K (by omega) w (by omega), ← ew, ← hk]; exact c2)
        obtain ⟨w1, w2⟩ := bc_o7 K hK w hw eb
        have w7 := bc_7 _ w2
        simp only [c2, true_implies, false_implies, implies_true, not_true_eq_false, not_false_eq_true, not_true, not_false_iff, and_true, true_and, and_false, false_and, true_or, or_true, i1n0, i0e0, w_X3_readLeftOut_77, hC.p6 hp, forall_eq, e11, nI_1]
        have r11 : (setI S' 4 p 11 (S.1 4 p 11 ||| (1 <<< ((f a - 48) &&& 31)))).1 4 p 11 = S.1 4 p 11 ||| (1 <<< ((f a - 48) &&& 31)) := by rw [rdI, if_pos ⟨rfl, rfl⟩, rdU, if_pos rfl]
        have rz : ∀ z, 6 ≤ z → z < 11 → (setI S' 4 p 11 (S.1 4 p 11 ||| (1 <<< ((f a - 48) &&& 31)))).1 4 p z = S.1 4 p z := fun z z1 z2 => by rw [rdI, if_pos ⟨rfl, rfl⟩, rdU, if_neg (by omega), hz z z1]
        by_cases c3 : a + 1 < n
        · rw [if_pos c3] at g1 g0
          refine ih (a + 1) (t + 1) (K ||| 2 ^ w) fu _ (by omega) (by omega) w2 (by omega) (Or.inr c3) (r11.trans ek) hC2 (by omega) (fun k S'' q1 q2 q3 q4 q5 q6 => ?_) (fun q S'' q1 q2 q3 => ?_)
          · rw [r11] at q1
            exact g1 k S'' q1 q2 q3 q4 q5 (fun z z1 z2 => by rw [q6 z z1 z2, rz z z1 z2])
          · rw [r11] at q1
            exact g0 q S'' q1 q2 q3
        · rw [if_neg c3] at g1 g0
          obtain ⟨fu, rfl⟩ : ∃ g, fu = g + 1 := ⟨fu - 1, by omega⟩
          exact lo_h hp hin hC2 (by omega) (by omega) (fun q => absurd q (by omega)) (fun _ => g1 _ _ rfl hC2.1 hC2.2.1 hC2.2.2.2.2.2.2.2 r11 rz)
      · rw [plo_n (fun q => c2 q.2.2.2)] at g0
        have hF := hC.flt (q := a)
        have e11b : (setI S' 4 p 5 (nI a)).1 4 p 11 = S.1 4 p 11 := by rw [rdI, if_pos ⟨rfl, rfl⟩, rdU, if_neg (by omega), e11]
        have hF2 := hF.set (s_ := 11) (v := S.1 4 p 11 ||| (1 <<< ((f a - 48) &&& 31))) (by decide)
        simp only [c2, true_implies, false_implies, implies_true, not_true_eq_false, not_false_eq_true, not_true, not_false_iff, and_true, true_and, and_false, false_and, true_or, or_true, i1n0, i0e0, w_X3_readLeftOut_77, hC.p6 hp, h7, forall_eq, e11b, hF.p6 hp]
        exact lo_e hp (by omega) hF2 (by omega) (g0 a _ rfl (by omega) hF2)
    · have c : ¬ (a < n ∧ wi (f a) 48 57 ∧ wi (f a - 48) 0 (nI c - 1)) := fun c => by rw [pnm1.1 c] at e; simp at e
      rw [plo_n (fun q => c ⟨q.1, q.2.1, q.2.2.1⟩)] at g0
      have hF2 := hF.set (s_ := 11) (v := S'.1 4 p 11 ||| (1 <<< (v &&& 31))) (by decide)
      simp only [w_X3_isFaulty, w_X3_readLeftOut_77, hF.p6 hp, hF.2.2, nm1 a (by omega), forall_eq, true_implies, false_implies, implies_true, not_true_eq_false, not_false_eq_true, not_true, not_false_iff, and_true, true_and, and_false, false_and, true_or, or_true, i1n0, i0e0]
      exact lo_e hp (by omega) hF2 (by omega) (g0 a _ rfl (by omega) hF2)
noncomputable def prs (f : Nat → Int32) (n cnt : Nat) : Except Nat (Int32 × Int32 × Int32 × Int32 × Int32 × Int32) :=
  match psg f n 111 0 with
  | none => .error 0
  | some a1 => match pnm f n 1 0 4 a1 with
  | none => .error a1
  | some (o, a2) => match psg f n 104 a2 with
  | none => .error a2
  | some a3 => match pnm f n 2 0 23 a3 with
  | none => .error a3
  | some (fh, a4) => match psg f n 45 a4 with
  | none => .error a4
  | some a5 => match pnm f n 2 fh 23 a5 with
  | none => .error a5
  | some (th, a6) => match psg f n 64 a6 with
  | none => .error a6
  | some a7 => match pnm f n 3 0 399 a7 with
  | none => .error a7
  | some (fd, a8) => match psg f n 45 a8 with
  | none => .error a8
  | some a9 => match pnm f n 3 fd 399 a9 with
  | none => .error a9
  | some (td, a10) => if a10 < n then (match psg f n 33 a10 with
    | none => .error a10
    | some a11 => match plo f n cnt (n + 1) a11 0 with
      | .error q => .error q
      | .ok k => .ok (o, fh, th, fd, td, k))
    else .ok (o, fh, th, fd, td, 0)
theorem updz {S : Sx} {p z s_ : Nat} {v : Int32} (h : z ≠ s_) : (setI S 4 p s_ v).1 4 p z = S.1 4 p z := by rw [rdI, if_pos ⟨rfl, rfl⟩, rdU, if_neg h]
theorem upds {S : Sx} {p s_ : Nat} {v : Int32} : (setI S 4 p s_ v).1 4 p s_ = v := by rw [rdI, if_pos ⟨rfl, rfl⟩, rdU, if_pos rfl]
theorem upd4 {S S' : Sx} {p : Nat} {v : Int32} (h : S'.1 4 p = upd (S.1 4 p) 4 v) {z : Nat} (hz : z ≠ 4) : S'.1 4 p z = S.1 4 p z := by rw [h, rdU, if_neg hz]
set_option maxHeartbeats 1000000 in
theorem ra_c {N p j i n c : Nat} {B S : Sx} {f : Nat → Int32} {post : Sx → Prop} (hN : 20000 ≤ N) (hp : p < B.2.2 6) (hj : j < 4) (hin : i + n ≤ 60) (hc7 : c ≤ 7) (hf : ∀ u, u < n → f u = B.1 0 (46 + j) (i + u)) (h : FC B p S j i n c 0) (h11 : S.1 4 p 11 = 0) (g1 : ∀ o fh th fd td k S', prs f n c = .ok (o, fh, th, fd, td, k) → S'.2 = B.2 → (∀ z, z ≠ 4 → S'.1 z = B.1 z) → S'.1 4 p 5 = (-1) → S'.1 4 p 6 = o → S'.1 4 p 7 = fh → S'.1 4 p 8 = th → S'.1 4 p 9 = fd → S'.1 4 p 10 = td → S'.1 4 p 11 = k → post S') (g0 : ∀ q S', prs f n c = .error q → q < 100 → FF B p S' q → post S') : w_X3_readAll N p S post := by
  unfold w_X3_readAll
  refine ⟨h.p6 hp, ?_⟩
  refine sg_c hp hj hin hf h (by omega) (fun a1 S1 r1 C1 z1 => ?_) (fun S1 r1 hF => ?_)
  case refine_2 =>
    have hE : prs f n c = .error 0 := by simp only [prs, r1]
    have hq : 0 < 100 := by omega
    repeat first | refine nm_f hp hq hF ?_ | refine sg_f hp hq hF ?_ | refine ⟨hF.p6 hp, ?_⟩ | refine FF.all hF (by decide) (fun S' hF => ?_)
    exact ⟨fun _ => g0 _ _ hE hq hF, fun _ => ⟨hF.p6 hp, lo_f hN hp hq hF (fun S' hF => g0 _ _ hE hq hF)⟩⟩
  have l1 := psg_le r1
  have k1 : S1.1 4 p 11 = 0 := by rw [upd4 z1 (by decide), h11]
  refine ⟨C1.p6 hp, nm_c (d := 1) hN hp hj hin (by decide) hf C1 l1 (fun o a2 S2 r2 C2 z2 => ?_) (fun v S2 r2 hF => ?_)⟩
  case refine_2 =>
    have hE : prs f n c = .error a1 := by simp only [prs, r1, r2]
    have hq : a1 < 100 := by omega
    repeat first | refine nm_f hp hq hF ?_ | refine sg_f hp hq hF ?_ | refine ⟨hF.p6 hp, ?_⟩ | refine FF.all hF (by decide) (fun S' hF => ?_)
    exact ⟨fun _ => g0 _ _ hE hq hF, fun _ => ⟨hF.p6 hp, lo_f hN hp hq hF (fun S' hF => g0 _ _ hE hq hF)⟩⟩
  obtain ⟨l2, w2⟩ := pnm_le l1 r2
  have k2 : S2.1 4 p 11 = 0 := by rw [z2 11 (by decide), k1]
  refine ⟨C2.p6 hp, ?_⟩
  intro s_ e_
  subst e_
  have D2 := C2.set (s_ := 6) (v := o) (by decide)
  refine ⟨D2.p6 hp, sg_c hp hj hin hf D2 l2 (fun a3 S3 r3 C3 z3 => ?_) (fun S3 r3 hF => ?_)⟩
  case refine_2 =>
    have hE : prs f n c = .error a2 := by simp only [prs, r1, r2, r3]
    have hq : a2 < 100 := by omega
    repeat first | refine nm_f hp hq hF ?_ | refine sg_f hp hq hF ?_ | refine ⟨hF.p6 hp, ?_⟩ | refine FF.all hF (by decide) (fun S' hF => ?_)
    exact ⟨fun _ => g0 _ _ hE hq hF, fun _ => ⟨hF.p6 hp, lo_f hN hp hq hF (fun S' hF => g0 _ _ hE hq hF)⟩⟩
  have l3 := psg_le r3
  have k3 : S3.1 4 p 11 = 0 ∧ S3.1 4 p 6 = o := by rw [upd4 z3 (by decide), upd4 z3 (by decide), updz (by decide), upds]; exact ⟨k2, rfl⟩
  refine ⟨C3.p6 hp, nm_c (d := 2) hN hp hj hin (by decide) hf C3 l3 (fun fh a4 S4 r4 C4 z4 => ?_) (fun v S4 r4 hF => ?_)⟩
  case refine_2 =>
    have hE : prs f n c = .error a3 := by simp only [prs, r1, r2, r3, r4]
    have hq : a3 < 100 := by omega
    repeat first | refine nm_f hp hq hF ?_ | refine sg_f hp hq hF ?_ | refine ⟨hF.p6 hp, ?_⟩ | refine FF.all hF (by decide) (fun S' hF => ?_)
    exact ⟨fun _ => g0 _ _ hE hq hF, fun _ => ⟨hF.p6 hp, lo_f hN hp hq hF (fun S' hF => g0 _ _ hE hq hF)⟩⟩
  obtain ⟨l4, w4⟩ := pnm_le l3 r4
  have k4 : S4.1 4 p 11 = 0 ∧ S4.1 4 p 6 = o := by rw [z4 11 (by decide), z4 6 (by decide)]; exact k3
  refine ⟨C4.p6 hp, ?_⟩
  intro s_ e_
  subst e_
  have D4 := C4.set (s_ := 7) (v := fh) (by decide)
  refine ⟨D4.p6 hp, sg_c hp hj hin hf D4 l4 (fun a5 S5 r5 C5 z5 => ?_) (fun S5 r5 hF => ?_)⟩
  case refine_2 =>
    have hE : prs f n c = .error a4 := by simp only [prs, r1, r2, r3, r4, r5]
    have hq : a4 < 100 := by omega
    repeat first | refine nm_f hp hq hF ?_ | refine sg_f hp hq hF ?_ | refine ⟨hF.p6 hp, ?_⟩ | refine FF.all hF (by decide) (fun S' hF => ?_)
    exact ⟨fun _ => g0 _ _ hE hq hF, fun _ => ⟨hF.p6 hp, lo_f hN hp hq hF (fun S' hF => g0 _ _ hE hq hF)⟩⟩
  have l5 := psg_le r5
  have k5 : S5.1 4 p 11 = 0 ∧ S5.1 4 p 6 = o ∧ S5.1 4 p 7 = fh := by rw [upd4 z5 (by decide), upd4 z5 (by decide), upd4 z5 (by decide), updz (by decide), updz (by decide), upds]; exact ⟨k4.1, k4.2, rfl⟩
  refine ⟨C5.p6 hp, C5.p6 hp, ?_⟩
  rw [k5.2.2]
  refine nm_c (d := 2) hN hp hj hin (by decide) hf C5 l5 (fun th a6 S6 r6 C6 z6 => ?_) (fun v S6 r6 hF => ?_)
  case refine_2 =>
    have hE : prs f n c = .error a5 := by simp only [prs, r1, r2, r3, r4, r5, r6]
    have hq : a5 < 100 := by omega
    repeat first | refine nm_f hp hq hF ?_ | refine sg_f hp hq hF ?_ | refine ⟨hF.p6 hp, ?_⟩ | refine FF.all hF (by decide) (fun S' hF => ?_)
    exact ⟨fun _ => g0 _ _ hE hq hF, fun _ => ⟨hF.p6 hp, lo_f hN hp hq hF (fun S' hF => g0 _ _ hE hq hF)⟩⟩
  obtain ⟨l6, w6⟩ := pnm_le l5 r6
  have k6 : S6.1 4 p 11 = 0 ∧ S6.1 4 p 6 = o ∧ S6.1 4 p 7 = fh := by rw [z6 11 (by decide), z6 6 (by decide), z6 7 (by decide)]; exact k5
  refine ⟨C6.p6 hp, ?_⟩
  intro s_ e_
  subst e_
  have D6 := C6.set (s_ := 8) (v := th) (by decide)
  refine ⟨D6.p6 hp, sg_c hp hj hin hf D6 l6 (fun a7 S7 r7 C7 z7 => ?_) (fun S7 r7 hF => ?_)⟩
  case refine_2 =>
    have hE : prs f n c = .error a6 := by simp only [prs, r1, r2, r3, r4, r5, r6, r7]
    have hq : a6 < 100 := by omega
    repeat first | refine nm_f hp hq hF ?_ | refine sg_f hp hq hF ?_ | refine ⟨hF.p6 hp, ?_⟩ | refine FF.all hF (by decide) (fun S' hF => ?_)
    exact ⟨fun _ => g0 _ _ hE hq hF, fun _ => ⟨hF.p6 hp, lo_f hN hp hq hF (fun S' hF => g0 _ _ hE hq hF)⟩⟩
  have l7 := psg_le r7
  have k7 : S7.1 4 p 11 = 0 ∧ S7.1 4 p 6 = o ∧ S7.1 4 p 7 = fh ∧ S7.1 4 p 8 = th := by rw [upd4 z7 (by decide), upd4 z7 (by decide), upd4 z7 (by decide), upd4 z7 (by decide), updz (by decide), updz (by decide), updz (by decide), upds]; exact ⟨k6.1, k6.2.1, k6.2.2, rfl⟩
  refine ⟨C7.p6 hp, nm_c (d := 3) hN hp hj hin (by decide) hf C7 l7 (fun fd a8 S8 r8 C8 z8 => ?_) (fun v S8 r8 hF => ?_)⟩
  case refine_2 =>
    have hE : prs f n c = .error a7 := by simp only [prs, r1, r2, r3, r4, r5, r6, r7, r8]
    have hq : a7 < 100 := by omega
    repeat first | refine nm_f hp hq hF ?_ | refine sg_f hp hq hF ?_ | refine ⟨hF.p6 hp, ?_⟩ | refine FF.all hF (by decide) (fun S' hF => ?_)
    exact ⟨fun _ => g0 _ _ hE hq hF, fun _ => ⟨hF.p6 hp, lo_f hN hp hq hF (fun S' hF => g0 _ _ hE hq hF)⟩⟩
  obtain ⟨l8, w8⟩ := pnm_le l7 r8
  have k8 : S8.1 4 p 11 = 0 ∧ S8.1 4 p 6 = o ∧ S8.1 4 p 7 = fh ∧ S8.1 4 p 8 = th := by rw [z8 11 (by decide), z8 6 (by decide), z8 7 (by decide), z8 8 (by decide)]; exact k7
  refine ⟨C8.p6 hp, ?_⟩
  intro s_ e_
  subst e_
  have D8 := C8.set (s_ := 9) (v := fd) (by decide)
  refine ⟨D8.p6 hp, sg_c hp hj hin hf D8 l8 (fun a9 S9 r9 C9 z9 => ?_) (fun S9 r9 hF => ?_)⟩
  case refine_2 =>
    have hE : prs f n c = .error a8 := by simp only [prs, r1, r2, r3, r4, r5, r6, r7, r8, r9]
    have hq : a8 < 100 := by omega
    repeat first | refine nm_f hp hq hF ?_ | refine sg_f hp hq hF ?_ | refine ⟨hF.p6 hp, ?_⟩ | refine FF.all hF (by decide) (fun S' hF => ?_)
    exact ⟨fun _ => g0 _ _ hE hq hF, fun _ => ⟨hF.p6 hp, lo_f hN hp hq hF (fun S' hF => g0 _ _ hE hq hF)⟩⟩
  have l9 := psg_le r9
  have k9 : S9.1 4 p 11 = 0 ∧ S9.1 4 p 6 = o ∧ S9.1 4 p 7 = fh ∧ S9.1 4 p 8 = th ∧ S9.1 4 p 9 = fd := by rw [upd4 z9 (by decide), upd4 z9 (by decide), upd4 z9 (by decide), upd4 z9 (by decide), upd4 z9 (by decide), updz (by decide), updz (by decide), updz (by decide), updz (by decide), upds]; exact ⟨k8.1, k8.2.1, k8.2.2.1, k8.2.2.2, rfl⟩
  refine ⟨C9.p6 hp, C9.p6 hp, ?_⟩
  rw [k9.2.2.2.2]
  refine nm_c (d := 3) hN hp hj hin (by decide) hf C9 l9 (fun td aA SA rA CA zA => ?_) (fun v SA rA hF => ?_)
  case refine_2 =>
    have hE : prs f n c = .error a9 := by simp only [prs, r1, r2, r3, r4, r5, r6, r7, r8, r9, rA]
    have hq : a9 < 100 := by omega
    repeat first | refine nm_f hp hq hF ?_ | refine sg_f hp hq hF ?_ | refine ⟨hF.p6 hp, ?_⟩ | refine FF.all hF (by decide) (fun S' hF => ?_)
    exact ⟨fun _ => g0 _ _ hE hq hF, fun _ => ⟨hF.p6 hp, lo_f hN hp hq hF (fun S' hF => g0 _ _ hE hq hF)⟩⟩
  obtain ⟨lA, wA⟩ := pnm_le l9 rA
  have kA : SA.1 4 p 11 = 0 ∧ SA.1 4 p 6 = o ∧ SA.1 4 p 7 = fh ∧ SA.1 4 p 8 = th ∧ SA.1 4 p 9 = fd := by rw [zA 11 (by decide), zA 6 (by decide), zA 7 (by decide), zA 8 (by decide), zA 9 (by decide)]; exact k9
  refine ⟨CA.p6 hp, ?_⟩
  intro s_ e_
  subst e_
  have DA := CA.set (s_ := 10) (v := td) (by decide)
  have kB : (setI SA 4 p 10 td).1 4 p 11 = 0 ∧ (setI SA 4 p 10 td).1 4 p 6 = o ∧ (setI SA 4 p 10 td).1 4 p 7 = fh ∧ (setI SA 4 p 10 td).1 4 p 8 = th ∧ (setI SA 4 p 10 td).1 4 p 9 = fd ∧ (setI SA 4 p 10 td).1 4 p 10 = td := by
    rw [updz (by decide), updz (by decide), updz (by decide), updz (by decide), updz (by decide), upds]
    exact ⟨kA.1, kA.2.1, kA.2.2.1, kA.2.2.2.1, kA.2.2.2.2, rfl⟩
  refine ⟨DA.p6 hp, DA.p6 hp, ?_⟩
  rw [DA.2.2.2.2.1, DA.2.2.2.2.2.2.1, nle (by omega) (by omega)]
  refine ⟨fun hn => ?_, fun hn => ⟨DA.p6 hp, ?_⟩⟩
  · have hE : prs f n c = .ok (o, fh, th, fd, td, 0) := by simp only [prs, r1, r2, r3, r4, r5, r6, r7, r8, r9, rA, show ¬ aA < n by omega, if_false]
    exact g1 _ _ _ _ _ _ _ hE DA.1 DA.2.1 DA.2.2.2.2.2.2.2 kB.2.1 kB.2.2.1 kB.2.2.2.1 kB.2.2.2.2.1 kB.2.2.2.2.2 kB.1
  · refine ⟨DA.p6 hp, sg_c hp hj hin hf DA lA (fun aC SC rC CC zC => ?_) (fun SC rC hF => ?_)⟩
    case refine_2 =>
      have hE : prs f n c = .error aA := by simp only [prs, r1, r2, r3, r4, r5, r6, r7, r8, r9, rA, show aA < n by omega, if_true, rC]
      have hq : aA < 100 := by omega
      exact lo_e hp hq hF (by omega) (g0 _ _ hE hq hF)
    have lC := psg_le rC
    have kC : SC.1 4 p 11 = 0 ∧ SC.1 4 p 6 = o ∧ SC.1 4 p 7 = fh ∧ SC.1 4 p 8 = th ∧ SC.1 4 p 9 = fd ∧ SC.1 4 p 10 = td := by
      rw [upd4 zC (by decide), upd4 zC (by decide), upd4 zC (by decide), upd4 zC (by decide), upd4 zC (by decide), upd4 zC (by decide)]
      exact kB
    refine lo_c hN hp hj hin hc7 hf n aC 0 0 N SC (by omega) (by omega) (by decide) (by decide) (Or.inl rfl) kC.1 CC lC (fun k S' q1 q2 q3 q4 q5 q6 => ?_) (fun q S' q1 q2 q3 => ?_)
    · rw [kC.1] at q1
      have hE : prs f n c = .ok (o, fh, th, fd, td, k) := by simp only [prs, r1, r2, r3, r4, r5, r6, r7, r8, r9, rA, show aA < n by omega, if_true, rC, q1]
      exact g1 _ _ _ _ _ _ _ hE q2 q3 q4 (by rw [q6 6 (by decide) (by decide), kC.2.1]) (by rw [q6 7 (by decide) (by decide), kC.2.2.1]) (by rw [q6 8 (by decide) (by decide), kC.2.2.2.1]) (by rw [q6 9 (by decide) (by decide), kC.2.2.2.2.1]) (by rw [q6 10 (by decide) (by decide), kC.2.2.2.2.2]) q5
    · rw [kC.1] at q1
      have hE : prs f n c = .error q := by simp only [prs, r1, r2, r3, r4, r5, r6, r7, r8, r9, rA, show aA < n by omega, if_true, rC, q1]
      exact g0 _ _ hE q2 q3
