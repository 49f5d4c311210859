theorem fx_in {n : Nat → Nat} {q : Nat × Nat} (h : q ∈ fxl) : q ∈ lx_ n := List.mem_append_left _ h
theorem px_in {n : Nat → Nat} {p : Nat} (h : p < n 0) : (1, p) ∈ lx_ n := List.mem_append_right _ (List.mem_append_left _ (List.mem_map.mpr ⟨p, List.mem_range.mpr h, rfl⟩))
theorem ox_in {n : Nat → Nat} {p : Nat} (h : p < n 2) : (2, p) ∈ lx_ n := List.mem_append_right _ (List.mem_append_right _ (List.mem_append_left _ (List.mem_map.mpr ⟨p, List.mem_range.mpr h, rfl⟩)))
theorem wx_in {n : Nat → Nat} {p : Nat} (h : p < n 4) : (3, p) ∈ lx_ n := List.mem_append_right _ (List.mem_append_right _ (List.mem_append_right _ (List.mem_append_left _ (List.mem_map.mpr ⟨p, List.mem_range.mpr h, rfl⟩))))
theorem rx_in {n : Nat → Nat} {p : Nat} (h : p < n 6) : (4, p) ∈ lx_ n := List.mem_append_right _ (List.mem_append_right _ (List.mem_append_right _ (List.mem_append_right _ (List.mem_map.mpr ⟨p, List.mem_range.mpr h, rfl⟩))))
section HR
variable {X : Kx} {cc : ByteArray} {nL : Nat} {own : String} {a : Ax} {s : Sx} {lv : List (Nat × Value)} {st : List Value} {ce sl pc : Nat}
theorem k_get (hC : Cx X cc nL own) {C : String} {T : u_T} {N ci ix k j slot : Nat} {fs : List Value} {v : Value} (hin : ∀ w ∈ u_ws C T N, w ∈ gw) (hc : cls_[ci]? = some (C, T, N)) (hm : (k, j) ∈ lx_ s.2.2) (hfs : ctf X.G a s.2.2 k j (s.1 k j) (s.2.1 k j) = .inr (ci, fs)) (hk : slot < N) (hw : Cond.fieldLink own ix (T slot).1 (T slot).2.1 (T slot).2.2.1 ∈ gw) (hv : fs[slot]? = some v) (hd : decode cc pc = .ok (.getfield ix, 3))
    (kk : wk X a s nL (pc + 3) lv (v :: st) ce sl) : wk X a s nL pc lv (.ref (adr X.G a k j) :: st) ce sl := fun H locs ls hF hS hl => by
  obtain ⟨q0, h1, h2⟩ := fw_get (G := X.G) (a := a) hm
  rw [hfs] at h2
  exact va_get hC.1 hC.2.1 hC.2.2.2.2.1 hin hC.2.2.2.1 hC.2.2.2.2.2.1 hF.1 q0 h2 hc slot hk (hC.2.2.2.2.1 _ hw) (fun _ h => h) hv hd (kk H locs ls hF hS hl)
theorem k_put (hC : Cx X cc nL own) {C : String} {T : u_T} {N ci ix k j slot : Nat} {fs : List Value} {v : Int32} (hin : ∀ w ∈ u_ws C T N, w ∈ gw) {ty0 : Nat → FieldType} (hty : ∀ k, k < N → parseFieldDescriptor (T k).2.2.1 = some (ty0 k)) (hnm : ∀ a, a < N → ∀ b, b < N → a ≠ b → (T a).2.1 ≠ (T b).2.1) (hc : cls_[ci]? = some (C, T, N)) (hm : (k, j) ∈ lx_ s.2.2) (hfs : ctf X.G a s.2.2 k j (s.1 k j) (s.2.1 k j) = .inr (ci, fs)) (hfs' : ctf X.G a s.2.2 k j (upd (s.1 k j) slot v) (s.2.1 k j) = .inr (ci, fs.set slot (.int v))) (hk : slot < N) (hw : Cond.fieldLink own ix (T slot).1 (T slot).2.1 (T slot).2.2.1 ∈ gw) (hfin : (T slot).2.2.2 = false) (hdsc : parseFieldDescriptor (T slot).2.2.1 = some .int) (hlen : slot < fs.length) (hd : decode cc pc = .ok (.putfield ix, 3))
    (kk : wk X a (setI s k j slot v) nL (pc + 3) lv st ce sl) : wk X a s nL pc lv (.int v :: .ref (adr X.G a k j) :: st) ce sl := fun H locs ls hF hS hl => by
  obtain ⟨q0, h1, h2⟩ := fw_get (G := X.G) (a := a) hm
  rw [hfs] at h2
  refine va_put hC.1 hC.2.1 hC.2.2.2.2.1 hin ty0 hty hnm hC.2.2.2.1 hC.2.2.2.2.2.1 hF.1 hF.2 hS q0 h2 hc slot hk (hC.2.2.2.2.1 _ hw) (fun _ h => h) hfin hdsc rfl rfl hlen hd (fun H1 locs1 hP hD hS1 => kk H1 locs1 ls (fw_set hF.2 h1 rfl ?_ ?_ hP hD) hS1 hl)
  · rw [setI_1]; exact hfs'
  · intro k' j' h; rw [setI_n s h]; rfl
theorem k_putF (hC : Cx X cc nL own) (hi : X.meth.name = "<init>") {C : String} {T : u_T} {N ci ix k j slot : Nat} {fs : List Value} {v : Int32} (hin : ∀ w ∈ u_ws C T N, w ∈ gw) {ty0 : Nat → FieldType} (hty : ∀ k, k < N → parseFieldDescriptor (T k).2.2.1 = some (ty0 k)) (hnm : ∀ a, a < N → ∀ b, b < N → a ≠ b → (T a).2.1 ≠ (T b).2.1) (hc : cls_[ci]? = some (C, T, N)) (hm : (k, j) ∈ lx_ s.2.2) (hfs : ctf X.G a s.2.2 k j (s.1 k j) (s.2.1 k j) = .inr (ci, fs)) (hfs' : ctf X.G a s.2.2 k j (upd (s.1 k j) slot v) (s.2.1 k j) = .inr (ci, fs.set slot (.int v))) (hk : slot < N) (hw : Cond.fieldLink own ix (T slot).1 (T slot).2.1 (T slot).2.2.1 ∈ gw) (hfin : (T slot).2.2.2 = true) (hdecl : (T slot).1 = own) (hdsc : parseFieldDescriptor (T slot).2.2.1 = some .int) (hlen : slot < fs.length) (hd : decode cc pc = .ok (.putfield ix, 3))
    (kk : wk X a (setI s k j slot v) nL (pc + 3) lv st ce sl) : wk X a s nL pc lv (.int v :: .ref (adr X.G a k j) :: st) ce sl := fun H locs ls hF hS hl => by
  obtain ⟨q0, h1, h2⟩ := fw_get (G := X.G) (a := a) hm
  rw [hfs] at h2
  refine va_putF hC.1 hC.2.1 hC.2.2.2.2.1 hin ty0 hty hnm hC.2.2.2.1 hC.2.2.2.2.2.1 hF.1 hF.2 hS q0 h2 hc slot hk (hC.2.2.2.2.1 _ hw) (fun _ h => h) hfin hi hdecl hdsc rfl rfl hlen hd (fun H1 locs1 hP hD hS1 => kk H1 locs1 ls (fw_set hF.2 h1 rfl ?_ ?_ hP hD) hS1 hl)
  · rw [setI_1]; exact hfs'
  · intro k' j' h; rw [setI_n s h]; rfl
theorem k_iald (hC : Cx X cc nL own) {k j n : Nat} {i : Int32} (hm : (k, j) ∈ lx_ s.2.2) (hct : ∀ ri rl, ctf X.G a s.2.2 k j ri rl = .inl (X.G.2.2.1 0, n, .inl ri)) (hi : vp_in i n) (hd : decode cc pc = .ok (.iaload, 1))
    (kk : wk X a s nL (pc + 1) lv (.int (s.1 k j i.toNatClampNeg) :: st) ce sl) : wk X a s nL pc lv (.int i :: .ref (adr X.G a k j) :: st) ce sl := fun H locs ls hF hS hl => by
  obtain ⟨q0, h1, h2⟩ := fw_get (G := X.G) (a := a) hm
  rw [hct] at h2
  exact va_iald hC.1 hC.2.1 hC.2.2.2.2.2.1 hF.1 q0 0 h2 rfl hi hd (kk H locs ls hF hS hl)
theorem k_zald (hC : Cx X cc nL own) {k j n : Nat} {i : Int32} (hm : (k, j) ∈ lx_ s.2.2) (hct : ∀ ri rl, ctf X.G a s.2.2 k j ri rl = .inl (X.G.2.2.1 2, n, .inl ri)) (hi : vp_in i n) (hd : decode cc pc = .ok (.baload, 1))
    (kk : wk X a s nL (pc + 1) lv (.int (s.1 k j i.toNatClampNeg) :: st) ce sl) : wk X a s nL pc lv (.int i :: .ref (adr X.G a k j) :: st) ce sl := fun H locs ls hF hS hl => by
  obtain ⟨q0, h1, h2⟩ := fw_get (G := X.G) (a := a) hm
  rw [hct] at h2
  exact va_zald hC.1 hC.2.1 hC.2.2.2.2.2.1 hF.1 q0 2 h2 rfl hi hd (kk H locs ls hF hS hl)
theorem k_lald (hC : Cx X cc nL own) {k j n : Nat} {i : Int32} (hm : (k, j) ∈ lx_ s.2.2) (hct : ∀ ri rl, ctf X.G a s.2.2 k j ri rl = .inl (X.G.2.2.1 1, n, .inr (.inl rl))) (hi : vp_in i n) (hd : decode cc pc = .ok (.laload, 1))
    (kk : wk X a s nL (pc + 1) lv (.long (s.2.1 k j i.toNatClampNeg) :: st) ce sl) : wk X a s nL pc lv (.int i :: .ref (adr X.G a k j) :: st) ce sl := fun H locs ls hF hS hl => by
  obtain ⟨q0, h1, h2⟩ := fw_get (G := X.G) (a := a) hm
  rw [hct] at h2
  exact va_lald hC.1 hC.2.1 hC.2.2.2.2.2.1 hF.1 q0 1 h2 rfl hi hd (kk H locs ls hF hS hl)
theorem k_iast (hC : Cx X cc nL own) {k j n : Nat} {i x : Int32} (hm : (k, j) ∈ lx_ s.2.2) (hct : ∀ ri rl, ctf X.G a s.2.2 k j ri rl = .inl (X.G.2.2.1 0, n, .inl ri)) (hi : vp_in i n) (hd : decode cc pc = .ok (.iastore, 1))
    (kk : wk X a (setI s k j i.toNatClampNeg x) nL (pc + 1) lv st ce sl) : wk X a s nL pc lv (.int x :: .int i :: .ref (adr X.G a k j) :: st) ce sl := fun H locs ls hF hS hl => by
  obtain ⟨q0, h1, h2⟩ := fw_get (G := X.G) (a := a) hm
  rw [hct] at h2
  refine va_iast hC.1 hC.2.1 hC.2.2.2.2.2.1 hF.1 hF.2 hS q0 0 h2 rfl hi hd (fun H1 locs1 hP hD hS1 => kk H1 locs1 ls (fw_set hF.2 h1 rfl ?_ ?_ hP hD) hS1 hl)
  · rw [setI_1]; exact hct _ _
  · intro k' j' h; rw [setI_n s h]; rfl
theorem k_zast (hC : Cx X cc nL own) {k j n : Nat} {i x : Int32} (hm : (k, j) ∈ lx_ s.2.2) (hct : ∀ ri rl, ctf X.G a s.2.2 k j ri rl = .inl (X.G.2.2.1 2, n, .inl ri)) (hi : vp_in i n) (hd : decode cc pc = .ok (.bastore, 1))
    (kk : wk X a (setI s k j i.toNatClampNeg (vp_nar .boolean x)) nL (pc + 1) lv st ce sl) : wk X a s nL pc lv (.int x :: .int i :: .ref (adr X.G a k j) :: st) ce sl := fun H locs ls hF hS hl => by
  obtain ⟨q0, h1, h2⟩ := fw_get (G := X.G) (a := a) hm
  rw [hct] at h2
  refine va_zast hC.1 hC.2.1 hC.2.2.2.2.2.1 hF.1 hF.2 hS q0 2 h2 rfl hi hd (fun H1 locs1 hP hD hS1 => kk H1 locs1 ls (fw_set hF.2 h1 rfl ?_ ?_ hP hD) hS1 hl)
  · rw [setI_1]; exact hct _ _
  · intro k' j' h; rw [setI_n s h]; rfl
theorem k_last (hC : Cx X cc nL own) {k j n : Nat} {i : Int32} {x : Int64} (hm : (k, j) ∈ lx_ s.2.2) (hct : ∀ ri rl, ctf X.G a s.2.2 k j ri rl = .inl (X.G.2.2.1 1, n, .inr (.inl rl))) (hi : vp_in i n) (hd : decode cc pc = .ok (.lastore, 1))
    (kk : wk X a (setJ s k j i.toNatClampNeg x) nL (pc + 1) lv st ce sl) : wk X a s nL pc lv (.long x :: .int i :: .ref (adr X.G a k j) :: st) ce sl := fun H locs ls hF hS hl => by
  obtain ⟨q0, h1, h2⟩ := fw_get (G := X.G) (a := a) hm
  rw [hct] at h2
  refine va_last hC.1 hC.2.1 hC.2.2.2.2.2.1 hF.1 hF.2 hS q0 1 h2 rfl hi hd (fun H1 locs1 hP hD hS1 => kk H1 locs1 ls (fw_set hF.2 h1 rfl ?_ ?_ hP hD) hS1 hl)
  · rw [setJ_1]; exact hct _ _
  · intro k' j' h; rw [setJ_n s h]; rfl
theorem k_alen (hC : Cx X cc nL own) {k j : Nat} {v : Int32} {cA : ClassId} {x : vp_A} {ty : FieldType} (t0 : Nat) (hm : (k, j) ∈ lx_ s.2.2) (hct : ctf X.G a s.2.2 k j (s.1 k j) (s.2.1 k j) = .inl (cA, x)) (ht : (tys_ X.G)[t0]? = some (cA, ty)) (hv : Int32.ofNat x.1 = v) (hd : decode cc pc = .ok (.arraylength, 1))
    (kk : wk X a s nL (pc + 1) lv (.int v :: st) ce sl) : wk X a s nL pc lv (.ref (adr X.G a k j) :: st) ce sl := fun H locs ls hF hS hl => by
  obtain ⟨q0, h1, h2⟩ := fw_get (G := X.G) (a := a) hm
  rw [hct] at h2
  exact va_alen hC.1 hC.2.1 hC.2.2.2.2.2.1 hF.1 q0 t0 h2 ht hv hd (kk H locs ls hF hS hl)
/-- an element of a row of dynamic objects: null from the count on -/
theorem k_aldP (hC : Cx X cc nL own) {k j n cnt : Nat} {i : Int32} {C : String} {pick : Nat → Nat} (t0 : Nat) {cA : ClassId} (hm : (k, j) ∈ lx_ s.2.2) (hct : ∀ ri rl, ctf X.G a s.2.2 k j ri rl = .inl (cA, n, .inr (.inr (.inr (.inr (fun i => if i < s.2.2 cnt then some (pick i) else none)))))) (ht : (tys_ X.G)[t0]? = some (cA, .object C)) (hi : vp_in i n) (hd : decode cc pc = .ok (.aaload, 1))
    (kn : ¬ i.toNatClampNeg < s.2.2 cnt → wk X a s nL (pc + 1) lv (.null :: st) ce sl) (kk : i.toNatClampNeg < s.2.2 cnt → wk X a s nL (pc + 1) lv (.ref (pick i.toNatClampNeg) :: st) ce sl) : wk X a s nL pc lv (.int i :: .ref (adr X.G a k j) :: st) ce sl := fun H locs ls hF hS hl => by
  obtain ⟨q0, h1, h2⟩ := fw_get (G := X.G) (a := a) hm
  rw [hct] at h2
  refine va_aldq hC.1 hC.2.1 hC.2.2.2.2.2.1 hF.1 q0 t0 h2 ht hi hd ?_
  by_cases h : i.toNatClampNeg < s.2.2 cnt
  · rw [if_pos h]; exact kk h H locs ls hF hS hl
  · rw [if_neg h]; exact kn h H locs ls hF hS hl
/-- a sheet of the row of sheets -/
theorem k_aldS (hC : Cx X cc nL own) {i : Int32} (hi : vp_in i 4) (hd : decode cc pc = .ok (.aaload, 1))
    (kk : wk X a s nL (pc + 1) lv (.ref (adr X.G a 0 (42 + i.toNatClampNeg)) :: st) ce sl) : wk X a s nL pc lv (.int i :: .ref (adr X.G a 0 41) :: st) ce sl := fun H locs ls hF hS hl => by
  obtain ⟨q0, h1, h2⟩ := fw_get (G := X.G) (a := a) (s := s) (k := 0) (j := 41) (fx_in (by decide))
  refine va_aldq hC.1 hC.2.1 hC.2.2.2.2.2.1 hF.1 q0 6 (n := 4) (f := fun i => if i < 4 then some (X.G.2.2.2.1 0 (42 + i)) else none) h2 rfl hi hd ?_
  have h4 : i.toNatClampNeg < 4 := by
    have := vp_in_iff.mp hi
    rcases Nat.lt_or_ge i.toNatClampNeg 4 with h | h
    · exact h
    · exact absurd (Or.inr h) hi
  rw [if_pos h4]
  exact kk H locs ls hF hS hl
/-- the next object of a kind comes into its row -/
theorem k_astP (hC : Cx X cc nL own) {j n cnt kd ci p : Nat} {i : Int32} {r : vw_C} {vs : List Value} {pick : Nat → Nat} (t0 : Nat) {cA : ClassId} (hm : (0, j) ∈ lx_ s.2.2) (hct : ∀ m : Nat → Nat, m = s.2.2 ∨ m = (setN s cnt (s.2.2 cnt + 1)).2.2 → ∀ ri rl, ctf X.G a m 0 j ri rl = .inl (cA, n, .inr (.inr (.inr (.inr (fun i => if i < m cnt then some (pick i) else none)))))) (ht : (tys_ X.G)[t0]? = some (cA, .object r.1))
    (hm2 : (kd, p) ∈ lx_ s.2.2) (hpk : pick p = adr X.G a kd p) (hv : ctf X.G a s.2.2 kd p (s.1 kd p) (s.2.1 kd p) = .inr (ci, vs)) (hc : cls_[ci]? = some r) (hip : i.toNatClampNeg = s.2.2 cnt) (hp : p = s.2.2 cnt) (hi : vp_in i n) (hlx : lx_ (setN s cnt (s.2.2 cnt + 1)).2.2 = lx_ s.2.2)
    (ho : ∀ k' j', ¬ (k' = 0 ∧ j' = j) → ∀ ri rl, ctf X.G a (setN s cnt (s.2.2 cnt + 1)).2.2 k' j' ri rl = ctf X.G a s.2.2 k' j' ri rl) (hd : decode cc pc = .ok (.aastore, 1))
    (kk : wk X a (setN s cnt (s.2.2 cnt + 1)) nL (pc + 1) lv st ce sl) : wk X a s nL pc lv (.ref (adr X.G a kd p) :: .int i :: .ref (adr X.G a 0 j) :: st) ce sl := fun H locs ls hF hS hl => by
  obtain ⟨q0, h1, h2⟩ := fw_get (G := X.G) (a := a) hm
  obtain ⟨qk, h3, h4⟩ := fw_get (G := X.G) (a := a) hm2
  rw [hct _ (Or.inl rfl)] at h2
  rw [hv] at h4
  refine va_astq hC.1 hC.2.1 hC.2.2.2.2.2.1 hF.1 hF.2 hS q0 t0 qk ci h2 ht h4 hc hi hd (fun H1 locs1 hP hD hS1 => kk H1 locs1 ls ?_ hS1 hl)
  have e : (wl_ X.G a s).set q0 (adr X.G a 0 j, .inl (cA, n, .inr (.inr (.inr (.inr (va_up (fun i => if i < s.2.2 cnt then some (pick i) else none) i.toNatClampNeg (some (adr X.G a kd p)))))))) = wl_ X.G a (setN s cnt (s.2.2 cnt + 1)) := by
    have hD0 := hF.2
    have e2 : (va_up (fun i => if i < s.2.2 cnt then some (pick i) else none) i.toNatClampNeg (some (adr X.G a kd p)) : Nat → Option Nat) = (fun i => if i < (setN s cnt (s.2.2 cnt + 1)).2.2 cnt then some (pick i) else none) := by
      funext z
      show (if z = i.toNatClampNeg then some (adr X.G a kd p) else if z < s.2.2 cnt then some (pick z) else none) = if z < (if cnt = cnt then s.2.2 cnt + 1 else s.2.2 cnt) then some (pick z) else none
      rw [if_pos rfl, hip]
      by_cases hz : z = s.2.2 cnt
      · rw [if_pos hz, if_pos (by omega), hz, ← hp, hpk]
      · rw [if_neg hz]
        by_cases hz2 : z < s.2.2 cnt
        · rw [if_pos hz2, if_pos (by omega)]
        · rw [if_neg hz2, if_neg (by omega)]
    rw [e2, ← hct _ (Or.inr rfl) (s.1 0 j) (s.2.1 0 j)]
    unfold wl_ at hD0 ⊢
    rw [hlx]
    exact map_set_ (β := Nat) (f' := fun q : Nat × Nat => (adr X.G a q.1 q.2, ctf X.G a (setN s cnt (s.2.2 cnt + 1)).2.2 q.1 q.2 (s.1 q.1 q.2) (s.2.1 q.1 q.2))) (x := (0, j)) hD0 h1 rfl (fun y hy => by
      have := ho y.1 y.2 (fun hh => hy (Prod.ext hh.1 hh.2)) (s.1 y.1 y.2) (s.2.1 y.1 y.2)
      rw [this])
  rw [e] at hP hD
  exact ⟨hP, hD⟩
end HR
