theorem fxl_nodup : fxl.Nodup := by decide
theorem lx_cases {n : Nat → Nat} {x : Nat × Nat} (h : x ∈ lx_ n) : x ∈ fxl ∨ (∃ p, p < n 0 ∧ x = (1, p)) ∨ (∃ p, p < n 2 ∧ x = (2, p)) ∨ (∃ p, p < n 4 ∧ x = (3, p)) ∨ (∃ p, p < n 6 ∧ x = (4, p)) := by
  simp only [lx_, List.mem_append, List.mem_map, List.mem_range] at h
  rcases h with h | ⟨p, h, rfl⟩ | ⟨p, h, rfl⟩ | ⟨p, h, rfl⟩ | ⟨p, h, rfl⟩
  · exact Or.inl h
  · exact Or.inr (Or.inl ⟨p, h, rfl⟩)
  · exact Or.inr (Or.inr (Or.inl ⟨p, h, rfl⟩))
  · exact Or.inr (Or.inr (Or.inr (Or.inl ⟨p, h, rfl⟩)))
  · exact Or.inr (Or.inr (Or.inr (Or.inr ⟨p, h, rfl⟩)))
theorem fxl_kinds {x : Nat × Nat} (h : x ∈ fxl) : x.1 = 0 ∨ x.1 = 5 ∨ x.1 = 6 := by
  simp only [fxl, List.mem_append, List.mem_map, List.mem_cons, List.not_mem_nil, or_false] at h
  rcases h with ⟨p, -, rfl⟩ | ⟨p, -, rfl⟩ | rfl
  · exact Or.inl rfl
  · exact Or.inr (Or.inl rfl)
  · exact Or.inr (Or.inr rfl)
theorem rng_nodup (k n : Nat) : ((List.range n).map (fun p => (k, p))).Nodup := by
  refine List.Pairwise.map _ (fun a b h => ?_) (List.nodup_range (n := n))
  exact fun e => h (Prod.mk.inj e).2
theorem lx_nodup (n : Nat → Nat) : (lx_ n).Nodup := by
  have key : ∀ (k m : Nat) (x : Nat × Nat), x ∈ (List.range m).map (fun p => (k, p)) → x.1 = k := fun k m x h => by
    obtain ⟨p, -, rfl⟩ := List.mem_map.mp h; rfl
  unfold lx_
  refine List.nodup_append.mpr ⟨fxl_nodup, List.nodup_append.mpr ⟨rng_nodup 1 _, List.nodup_append.mpr ⟨rng_nodup 2 _, List.nodup_append.mpr ⟨rng_nodup 3 _, rng_nodup 4 _, ?_⟩, ?_⟩, ?_⟩, ?_⟩
  · intro x hx y hy e; subst e; have h1 := key _ _ _ hx; have h2 := key _ _ _ hy; omega
  · intro x hx y hy e; subst e
    have h1 := key _ _ _ hx
    rcases List.mem_append.mp hy with hy | hy <;> (have h2 := key _ _ _ hy; omega)
  · intro x hx y hy e; subst e
    have h1 := key _ _ _ hx
    rcases List.mem_append.mp hy with hy | hy
    · have h2 := key _ _ _ hy; omega
    · rcases List.mem_append.mp hy with hy | hy <;> (have h2 := key _ _ _ hy; omega)
  · intro x hx y hy e; subst e
    have h1 := fxl_kinds hx
    rcases List.mem_append.mp hy with hy | hy
    · have h2 := key _ _ _ hy; omega
    · rcases List.mem_append.mp hy with hy | hy
      · have h2 := key _ _ _ hy; omega
      · rcases List.mem_append.mp hy with hy | hy <;> (have h2 := key _ _ _ hy; omega)
/-- a cell more -/
theorem fw_grow {G : Gx} {a a' : Ax} {s s' : Sx} {H1 : Heap} {q : Nat} {e : va_E} (x0 : Nat × Nat) (hP : va_P (G.1, G.2.1) cls_ (wl_ G a s ++ [(q, e)]) H1) (hD : va_D (bs_ G) (wl_ G a s ++ [(q, e)])) (hsub : ∀ x ∈ lx_ s'.2.2, x ∈ lx_ s.2.2 ∨ x = x0)
    (hold : ∀ x ∈ lx_ s.2.2, (adr G a' x.1 x.2, ctf G a' s'.2.2 x.1 x.2 (s'.1 x.1 x.2) (s'.2.1 x.1 x.2)) = (adr G a x.1 x.2, ctf G a s.2.2 x.1 x.2 (s.1 x.1 x.2) (s.2.1 x.1 x.2))) (hnew : (adr G a' x0.1 x0.2, ctf G a' s'.2.2 x0.1 x0.2 (s'.1 x0.1 x0.2) (s'.2.1 x0.1 x0.2)) = (q, e)) : FW G a' s' H1 := by
  have hlen : (wl_ G a s).length = (lx_ s.2.2).length := by simp [wl_]
  have key : ∀ (i : Nat) (y : Nat × va_E), (wl_ G a' s')[i]? = some y → ∃ x, (lx_ s'.2.2)[i]? = some x ∧ y = (adr G a' x.1 x.2, ctf G a' s'.2.2 x.1 x.2 (s'.1 x.1 x.2) (s'.2.1 x.1 x.2)) := by
    intro i y h
    simp only [wl_, List.getElem?_map, Option.map_eq_some_iff] at h
    obtain ⟨x, h1, h2⟩ := h
    exact ⟨x, h1, h2.symm⟩
  have key2 : ∀ x ∈ lx_ s'.2.2, ∃ i : Nat, (wl_ G a s ++ [(q, e)])[i]? = some (adr G a' x.1 x.2, ctf G a' s'.2.2 x.1 x.2 (s'.1 x.1 x.2) (s'.2.1 x.1 x.2)) ∧ ((i < (lx_ s.2.2).length ∧ (lx_ s.2.2)[i]? = some x) ∨ (i = (lx_ s.2.2).length ∧ x = x0)) := by
    intro x hx
    rcases hsub x hx with h | h
    · obtain ⟨i, hi⟩ := List.getElem?_of_mem h
      have hil := (List.getElem?_eq_some_iff.mp hi).1
      refine ⟨i, ?_, Or.inl ⟨hil, hi⟩⟩
      rw [List.getElem?_append_left (by rw [hlen]; exact hil), hold x h]
      simp [wl_, hi]
    · refine ⟨(lx_ s.2.2).length, ?_, Or.inr ⟨rfl, h⟩⟩
      rw [h, hnew, List.getElem?_append_right (by rw [hlen]; exact Nat.le_refl _), hlen, Nat.sub_self]; rfl
  refine ⟨fun i y hy => ?_, fun i j y z hi hj hyz => ?_, fun i y hy => ?_⟩
  · obtain ⟨x, h1, rfl⟩ := key i y hy
    obtain ⟨i2, h2, -⟩ := key2 x (List.mem_of_getElem? h1)
    exact hP i2 _ h2
  · obtain ⟨x, h1, rfl⟩ := key i y hi
    obtain ⟨w, h2, rfl⟩ := key j z hj
    obtain ⟨i2, h3, h5⟩ := key2 x (List.mem_of_getElem? h1)
    obtain ⟨j2, h4, h6⟩ := key2 w (List.mem_of_getElem? h2)
    have e := hD.1 i2 j2 _ _ h3 h4 hyz
    subst e
    have hxw : x = w := by
      rcases h5 with ⟨l5, h5⟩ | ⟨l5, h5⟩ <;> rcases h6 with ⟨l6, h6⟩ | ⟨l6, h6⟩
      · rw [h5] at h6; exact Option.some.inj h6
      · omega
      · omega
      · rw [h5, h6]
    subst hxw
    have hn := lx_nodup s'.2.2
    obtain ⟨li, ei⟩ := List.getElem?_eq_some_iff.mp h1
    obtain ⟨lj, ej⟩ := List.getElem?_eq_some_iff.mp h2
    exact (List.getElem_inj hn).mp (ei.trans ej.symm)
  · obtain ⟨x, h1, rfl⟩ := key i y hy
    obtain ⟨i2, h2, -⟩ := key2 x (List.mem_of_getElem? h1)
    exact hD.2 i2 _ h2
/-- a new object of a dynamic kind: all its numbers 0 -/
def newD (s : Sx) (kd cn : Nat) : Sx := (fun k j => if k = kd ∧ j = s.2.2 cn then (fun _ => 0) else s.1 k j, s.2.1, fun i => if i = cn then s.2.2 cn + 1 else s.2.2 i)
/-- at a method's start: the world, the tables, the private links -/
def FU (G : Gx) (a : Ax) (s : Sx) (U : State) : Prop := FW G a s U.heap ∧ va_K (G.1, G.2.1) cls_ (tys_ G) U ∧ nw_ U ∧ G.2.2.2.2 ≤ U.heap.size
def Qi (G : Gx) (a : Ax) (post : Int32 → Sx → Prop) : Array Value → State → Outcome → State → Prop := va_Qi (S := Sx) post (fun u t => FW G a u t.heap) (bs_ G)
def Ql (G : Gx) (a : Ax) (post : Int64 → Sx → Prop) : Array Value → State → Outcome → State → Prop := va_Ql (S := Sx) post (fun u t => FW G a u t.heap) (bs_ G)
def Qv (G : Gx) (a : Ax) (post : Sx → Prop) : Array Value → State → Outcome → State → Prop := va_Qv (S := Sx) post (fun u t => FW G a u t.heap) (bs_ G)
def Qa (G : Gx) (post : Int32 → Sx → Prop) : Array Value → State → Outcome → State → Prop := va_Qi (S := Ax × Sx) (fun r u => post r u.2) (fun u t => FW G u.1 u.2 t.heap) (bs_ G)
/-- a reference to the object (k, off + j), or null -/
def Qq (G : Gx) (a : Ax) (k off : Nat) (post : Option Nat → Sx → Prop) : Array Value → State → Outcome → State → Prop := va_Qq (S := Option Nat × Sx) (fun r u => r = u.1.map (fun j => adr G a k (off + j)) ∧ post u.1 u.2) (fun u t => FW G a u.2 t.heap) (bs_ G)
theorem fw_eq {G : Gx} {a : Ax} {s : Sx} {H : Heap} {t : State} (h : t.heap = H) (hF : FW G a s H) : FW G a s t.heap := h ▸ hF
section CR
variable {X : Kx} {cc : ByteArray} {nL : Nat} {own : String} {a : Ax} {s : Sx} {lv : List (Nat × Value)} {st : List Value} {ce sl pc : Nat}
theorem k_new (hC : Cx X cc nL own) {C : String} {T : u_T} {N ci ix kd cn : Nat} {fs : List Value} (hin : ∀ w ∈ u_ws C T N, w ∈ gw) (ty0 : Nat → FieldType) (hty : ∀ k, k < N → parseFieldDescriptor (T k).2.2.1 = some (ty0 k)) (hcl : Cond.classLink own ix C ∈ gw) (hit : Cond.instantiable C N ∈ gw) (hii : Cond.initialized C ∈ gw) (hc : cls_[ci]? = some (C, T, N)) (hfs : ∀ j, j < N → defaultValue (ty0 j) = vp_V fs j) (hcells : ce + 1 ≤ X.R.cells) (hslots : sl + N ≤ X.R.slots) (a' : Nat → Ax)
    (hsub : ∀ x ∈ lx_ (newD s kd cn).2.2, x ∈ lx_ s.2.2 ∨ x = (kd, s.2.2 cn)) (hold : ∀ q, ∀ x ∈ lx_ s.2.2, (adr X.G (a' q) x.1 x.2, ctf X.G (a' q) (newD s kd cn).2.2 x.1 x.2 ((newD s kd cn).1 x.1 x.2) (s.2.1 x.1 x.2)) = (adr X.G a x.1 x.2, ctf X.G a s.2.2 x.1 x.2 (s.1 x.1 x.2) (s.2.1 x.1 x.2))) (hnew : ∀ q, (adr X.G (a' q) kd (s.2.2 cn), ctf X.G (a' q) (newD s kd cn).2.2 kd (s.2.2 cn) ((newD s kd cn).1 kd (s.2.2 cn)) (s.2.1 kd (s.2.2 cn))) = (q, .inr (ci, fs)))
    (hd : decode cc pc = .ok (.new ix, 3)) (kk : ∀ q, wk X (a' q) (newD s kd cn) nL (pc + 3) lv (.ref (adr X.G (a' q) kd (s.2.2 cn)) :: st) (ce + 1) (sl + N)) : wk X a s nL pc lv st ce sl := fun H locs ls hF hS hl => by
  refine va_new hC.1 hC.2.1 hC.2.2.2.2.1 hin ty0 hty hC.2.2.2.1 (hC.2.2.2.2.1 _ hcl) (hC.2.2.2.2.1 _ hit) (hC.2.2.2.2.1 _ hii) hC.2.2.2.2.2.1 hF.1 hF.2 hS (fun q h => Nat.le_trans hC.2.2.2.2.2.2.2.1 h) hc hfs hcells hslots hd (fun q H1 hP hD hS1 => ?_)
  have h1 : adr X.G (a' q) kd (s.2.2 cn) = q := congrArg Prod.fst (hnew q)
  have h2 := kk q H1 locs ls (fw_grow (s' := newD s kd cn) (kd, s.2.2 cn) hP hD hsub (hold q) (hnew q)) hS1 hl
  rw [h1] at h2
  exact h2
theorem k_objInit (hC : Cx X cc nL own) {ix x : Nat} (hml : Cond.methodLink own ix Lib.objectInit ∈ gw) (hst : (st.map fun v => v.category).sum = 0) (hfr : 1 ≤ X.R.frames) (hlo : 12 ≤ X.R.locals) (hd : decode cc pc = .ok (.invokespecial ix, 3)) (kk : wk X a s nL (pc + 3) lv st ce sl) : wk X a s nL pc lv (.ref x :: st) ce sl := fun H locs ls hF hS hl =>
  W.objInit hC.1 hC.2.1 hC.2.2.2.1 (hC.2.2.2.2.1 _ hml) (hC.2.2.2.2.1 _ im_objInit) (hC.2.2.2.2.1 _ cd_objInit) rfl (by rw [hC.2.2.1]; exact hl.1) rfl hd hfr (by rw [hst]; exact hlo) (kk H locs ls hF hS hl)
/-- the return rows -/
theorem k_iret (hC : Cx X cc nL own) {post : Int32 → Sx → Prop} {v : Int32} (hQ : X.Q = MQ X.below (Qi X.G a post) X.av X.s ce sl (bs_ X.G)) (hr : X.meth.sig.returnType = some .int) (hd : decode cc pc = .ok (.ireturn, 1)) (h : post v s) : wk X a s nL pc lv [.int v] ce sl := fun H locs ls hF hS hl => by
  rw [hQ]
  exact W.iret (free := bs_ X.G) hC.1 hC.2.1 hr (fun t ht hW => ⟨⟨v, s, rfl, h, fw_eq ht hF⟩, hS.F ht⟩) hS.2.2 hd (hlocks := hC.2.2.2.2.2.2.2.2)
theorem k_zret (hC : Cx X cc nL own) {post : Int32 → Sx → Prop} {v : Int32} (hQ : X.Q = MQ X.below (Qi X.G a post) X.av X.s ce sl (bs_ X.G)) (hr : X.meth.sig.returnType = some .boolean) (hd : decode cc pc = .ok (.ireturn, 1)) (hn : v = 0 ∨ v = 1) (h : post v s) : wk X a s nL pc lv [.int v] ce sl := fun H locs ls hF hS hl => by
  rw [hQ]
  exact W.zret (free := bs_ X.G) hC.1 hC.2.1 hr (by rcases hn with rfl | rfl <;> rfl) (fun t ht hW => ⟨⟨v, s, rfl, h, fw_eq ht hF⟩, hS.F ht⟩) hS.2.2 hd (hlocks := hC.2.2.2.2.2.2.2.2)
theorem k_aret (hC : Cx X cc nL own) {post : Int32 → Sx → Prop} {v : Int32} (hQ : X.Q = MQ X.below (Qa X.G post) X.av X.s ce sl (bs_ X.G)) (hr : X.meth.sig.returnType = some .int) (hd : decode cc pc = .ok (.ireturn, 1)) (h : post v s) : wk X a s nL pc lv [.int v] ce sl := fun H locs ls hF hS hl => by
  rw [hQ]
  exact W.iret (free := bs_ X.G) hC.1 hC.2.1 hr (fun t ht hW => ⟨⟨v, (a, s), rfl, h, fw_eq ht hF⟩, hS.F ht⟩) hS.2.2 hd (hlocks := hC.2.2.2.2.2.2.2.2)
theorem k_lret (hC : Cx X cc nL own) {post : Int64 → Sx → Prop} {v : Int64} (hQ : X.Q = MQ X.below (Ql X.G a post) X.av X.s ce sl (bs_ X.G)) (hr : X.meth.sig.returnType = some .long) (hd : decode cc pc = .ok (.lreturn, 1)) (h : post v s) : wk X a s nL pc lv [.long v] ce sl := fun H locs ls hF hS hl => by
  rw [hQ]
  exact W.lret (free := bs_ X.G) hC.1 hC.2.1 hr (fun t ht hW => ⟨⟨v, s, rfl, h, fw_eq ht hF⟩, hS.F ht⟩) hS.2.2 hd (hlocks := hC.2.2.2.2.2.2.2.2)
theorem k_vret (hC : Cx X cc nL own) {post : Sx → Prop} (hQ : X.Q = MQ X.below (Qv X.G a post) X.av X.s ce sl (bs_ X.G)) (hr : X.meth.sig.returnType = none) (hd : decode cc pc = .ok (.return_, 1)) (h : post s) : wk X a s nL pc lv [] ce sl := fun H locs ls hF hS hl => by
  rw [hQ]
  exact W.vret (free := bs_ X.G) hC.1 hC.2.1 hr (fun t ht hW => ⟨⟨s, rfl, h, fw_eq ht hF⟩, hS.F ht⟩) hS.2.2 hd (hlocks := hC.2.2.2.2.2.2.2.2)
theorem k_nret (hC : Cx X cc nL own) {k off : Nat} {C : String} {post : Option Nat → Sx → Prop} (hQ : X.Q = MQ X.below (Qq X.G a k off post) X.av X.s ce sl (bs_ X.G)) (hr : X.meth.sig.returnType = some (.object C)) (hd : decode cc pc = .ok (.areturn, 1)) (h : post none s) : wk X a s nL pc lv [.null] ce sl := fun H locs ls hF hS hl => by
  rw [hQ]
  exact W.aret (free := bs_ X.G) hC.1 hC.2.1 hr (Or.inl ⟨_, rfl⟩) (Or.inl rfl) (fun t ht hW => ⟨⟨none, (none, s), rfl, ⟨rfl, h⟩, fw_eq ht hF⟩, hS.F ht⟩) hS.2.2 hd (hlocks := hC.2.2.2.2.2.2.2.2)
theorem k_rret (hC : Cx X cc nL own) {k off j : Nat} {C : String} {post : Option Nat → Sx → Prop} (hQ : X.Q = MQ X.below (Qq X.G a k off post) X.av X.s ce sl (bs_ X.G)) (hr : X.meth.sig.returnType = some (.object C)) (hd : decode cc pc = .ok (.areturn, 1)) (h : post (some j) s) : wk X a s nL pc lv [.ref (adr X.G a k (off + j))] ce sl := fun H locs ls hF hS hl => by
  rw [hQ]
  exact W.aret (free := bs_ X.G) hC.1 hC.2.1 hr (Or.inl ⟨_, rfl⟩) (Or.inr ⟨_, rfl⟩) (fun t ht hW => ⟨⟨some (adr X.G a k (off + j)), (some j, s), rfl, ⟨rfl, h⟩, fw_eq ht hF⟩, hS.F ht⟩) hS.2.2 hd (hlocks := hC.2.2.2.2.2.2.2.2)
/-- a call that runs -/
def Rn (X : Kx) (a : Ax) (s : Sx) (nL pc : Nat) (lv : List (Nat × Value)) (st0 rest : List Value) (ce sl mc ms : Nat) (Qs : State → Outcome → State → Prop) : Prop :=
  ∀ (H : Heap) (locs : List Loc) (ls : Array Slot), FW X.G a s H → va_S (bs_ X.G) X.s.heap H locs → lv_has ls nL lv → va_Run X.1 X.2.1 X.2.2.1 X.R X.s X.m X.av X.below X.meth X.c H locs ce sl mc ms (F0 X.m pc ls st0) rest Qs (bs_ X.G)
/-- what is fixed of a callee -/
def Ca (y : MethodName) (bytes : ByteArray) (maxL : Nat) (ret : Option FieldType) (n : Nat) : Prop := Cond.code y bytes maxL ret ∈ gw ∧ Cond.initialized y.cls ∈ gw ∧ y.cls ≠ "java/lang/invoke/MethodHandle" ∧ y.cls ≠ "java/lang/invoke/VarHandle" ∧ (parseMethodDescriptor y.desc).map (fun d => d.parameters.length) = some n
theorem gw_in {y : MethodName} {bytes : ByteArray} {maxL n : Nat} {ret : Option FieldType} (h : Ca y bytes maxL ret n) : GoodIn gw (Cond.code y bytes maxL ret :: gw) := fun w hw => by
  rcases List.mem_cons.mp hw with rfl | hw
  · exact ⟨h.1, gw_ok _ h.1⟩
  · exact ⟨hw, gw_ok _ hw⟩
theorem fu_blind {G : Gx} {a : Ax} {s : Sx} {av : List Value} : FrameBlind (va_Pc av (fun U => FU G a s U)) := fun x U g mk h => ⟨h.1, h.2.1, va_K.moved (u := U) (U := U.calling g mk x) (Vm.Alike.refl U.vm) h.2.2.1, nw_.same (s := U) (U := U.calling g mk x) rfl h.2.2.2.1, h.2.2.2.2⟩
theorem fu_pre {X : Kx} {cc : ByteArray} {nL : Nat} {own : String} (hC : Cx X cc nL own) {a : Ax} {s : Sx} {av : List Value} {H : Heap} {locs : List Loc} (hF : FW X.G a s H) (hS : va_S (bs_ X.G) X.s.heap H locs) : ∀ U : State, U.heap = H → X.s.WarmedH U.vm → va_Pc av (fun U => FU X.G a s U) av.toArray U := fun U hU hW => ⟨rfl, by rw [hU]; exact hF, va_K.moved hW.alike hC.2.2.2.2.2.1, nw_.warm hW hC.2.2.2.2.2.2.1, by rw [hU]; exact Nat.le_trans hC.2.2.2.2.2.2.2.1 hS.1⟩
theorem rn_S (hC : Cx X cc nL own) {y : MethodName} {bytes : ByteArray} {maxL n mc ms ix : Nat} {ret : Option FieldType} {rm : Room} {Qc : Array Value → State → Outcome → State → Prop} {As rest : List Value} (hA : Ca y bytes maxL ret n) (hml : Cond.methodLink own ix y ∈ gw) (hst : Cond.static y ∈ gw) (hM : Met X.2.1 y (Cond.code y bytes maxL ret :: gw) rm (va_Pc As (fun U => FU X.G a s U)) Qc mc ms (bs_ X.G)) (hrm : rm.cells = mc ∧ rm.slots = ms ∧ rm.frames + 1 ≤ X.R.frames ∧ 8 + (maxL + 11) + rm.locals ≤ X.R.locals) (hn : As.length = n) (hw : (rest.map fun v => v.category).sum ≤ 8) (hd : decode cc pc = .ok (.invokestatic ix, 3)) (hf : ce + mc ≤ X.R.cells ∧ sl + ms ≤ X.R.slots) : Rn X a s nL pc lv (As.reverse ++ rest) rest ce sl mc ms (Qc As.toArray) := fun H locs ls hF hS hl =>
  va_runS ⟨hC.1, hC.2.1, hC.2.2.1, hC.2.2.2.1, hC.2.2.2.2.1⟩ hM ⟨callB_of n hC.2.2.2.2.1 (gw_in hA) rfl hrm.1 hrm.2.1 (hC.2.2.2.2.1 _ hA.2.1) (hC.2.2.2.2.1 _ hml) hA.2.2 hrm.2.2, hC.2.2.2.2.1 _ hst⟩ ⟨fu_blind, fu_pre hC hF hS⟩ rfl hn hl.1 rfl (lv_room hw) hd hf
theorem rn_SN (hC : Cx X cc nL own) {y : MethodName} {bytes : ByteArray} {maxL n mc ms ix : Nat} {host : String} {ret : Option FieldType} {rm : Room} {Qc : Array Value → State → Outcome → State → Prop} {As rest : List Value} (hA : Ca y bytes maxL ret n) (hml : Cond.methodLinkNest own ix y host ∈ nwl) (hst : Cond.static y ∈ gw) (hM : Met X.2.1 y (Cond.code y bytes maxL ret :: gw) rm (va_Pc As (fun U => FU X.G a s U)) Qc mc ms (bs_ X.G)) (hrm : rm.cells = mc ∧ rm.slots = ms ∧ rm.frames + 1 ≤ X.R.frames ∧ 8 + (maxL + 11) + rm.locals ≤ X.R.locals) (hn : As.length = n) (hw : (rest.map fun v => v.category).sum ≤ 8) (hd : decode cc pc = .ok (.invokestatic ix, 3)) (hf : ce + mc ≤ X.R.cells ∧ sl + ms ≤ X.R.slots) : Rn X a s nL pc lv (As.reverse ++ rest) rest ce sl mc ms (Qc As.toArray) := fun H locs ls hF hS hl =>
  va_runSN ⟨hC.1, hC.2.1, hC.2.2.1, hC.2.2.2.1, hC.2.2.2.2.1⟩ hM ⟨va_cnB n hC.2.2.2.2.1 (gw_in hA) rfl hrm.1 hrm.2.1 (hC.2.2.2.2.2.2.1 _ hml) (hC.2.2.2.2.1 _ hA.2.1) hA.2.2 hrm.2.2, hC.2.2.2.2.1 _ hst, trivial⟩ ⟨fu_blind, fu_pre hC hF hS⟩ rfl hn hl.1 rfl (lv_room hw) hd hf
theorem rn_V (hC : Cx X cc nL own) {y : MethodName} {C : String} {q : vw_C} {bytes : ByteArray} {maxL n mc ms ix k j ci : Nat} {ret : Option FieldType} {rm : Room} {Qc : Array Value → State → Outcome → State → Prop} {As rest : List Value} (hA : Ca y bytes maxL ret n) (hml : Cond.methodLink own ix y ∈ gw) (him : Cond.instanceMethod y ∈ gw) (hse : Cond.selects C y y ∈ gw) (hm : (k, j) ∈ lx_ s.2.2) (hfs : ∃ fs, ctf X.G a s.2.2 k j (s.1 k j) (s.2.1 k j) = .inr (ci, fs)) (hc : cls_[ci]? = some q) (hq : q.1 = C) (hM : Met X.2.1 y (Cond.code y bytes maxL ret :: gw) rm (va_Pc (.ref (adr X.G a k j) :: As) (fun U => FU X.G a s U)) Qc mc ms (bs_ X.G)) (hrm : rm.cells = mc ∧ rm.slots = ms ∧ rm.frames + 1 ≤ X.R.frames ∧ 8 + (maxL + 11) + rm.locals ≤ X.R.locals) (hn : As.length = n) (hw : (rest.map fun v => v.category).sum ≤ 8) (hd : decode cc pc = .ok (.invokevirtual ix, 3)) (hf : ce + mc ≤ X.R.cells ∧ sl + ms ≤ X.R.slots) : Rn X a s nL pc lv (As.reverse ++ .ref (adr X.G a k j) :: rest) rest ce sl mc ms (Qc (Value.ref (adr X.G a k j) :: As).toArray) := fun H locs ls hF hS hl => by
  obtain ⟨q0, h1, h2⟩ := fw_get (G := X.G) (a := a) hm
  obtain ⟨fs, hfs⟩ := hfs
  rw [hfs] at h2
  subst hq
  exact va_runV ⟨hC.1, hC.2.1, hC.2.2.1, hC.2.2.2.1, hC.2.2.2.2.1⟩ hM ⟨callB_of n hC.2.2.2.2.1 (gw_in hA) rfl hrm.1 hrm.2.1 (hC.2.2.2.2.1 _ hA.2.1) (hC.2.2.2.2.1 _ hml) hA.2.2 hrm.2.2, hC.2.2.2.2.1 _ him, hC.2.2.2.2.1 _ hse⟩ ⟨fu_blind, va_recv hC.2.2.2.2.2.1 hF.1 hc h2, fu_pre hC hF hS⟩ rfl hn hl.1 rfl (lv_room hw) hd hf
theorem rn_I (hC : Cx X cc nL own) {y : MethodName} {bytes : ByteArray} {maxL n mc ms ix b : Nat} {rm : Room} {Qc : Array Value → State → Outcome → State → Prop} {As rest : List Value} (hA : Ca y bytes maxL none n) (hy : y.name = "<init>") (hml : Cond.methodLink own ix y ∈ gw) (him : Cond.instanceMethod y ∈ gw) (hM : Met X.2.1 y (Cond.code y bytes maxL none :: gw) rm (va_Pc (.ref b :: As) (fun U => FU X.G a s U)) Qc mc ms (bs_ X.G)) (hrm : rm.cells = mc ∧ rm.slots = ms ∧ rm.frames + 1 ≤ X.R.frames ∧ 8 + (maxL + 11) + rm.locals ≤ X.R.locals) (hn : As.length = n) (hw : (rest.map fun v => v.category).sum ≤ 8) (hd : decode cc pc = .ok (.invokespecial ix, 3)) (hf : ce + mc ≤ X.R.cells ∧ sl + ms ≤ X.R.slots) : Rn X a s nL pc lv (As.reverse ++ .ref b :: rest) rest ce sl mc ms (Qc (Value.ref b :: As).toArray) := fun H locs ls hF hS hl =>
  va_runI ⟨hC.1, hC.2.1, hC.2.2.1, hC.2.2.2.1, hC.2.2.2.2.1⟩ hM ⟨callB_of n hC.2.2.2.2.1 (gw_in hA) rfl hrm.1 hrm.2.1 (hC.2.2.2.2.1 _ hA.2.1) (hC.2.2.2.2.1 _ hml) hA.2.2 hrm.2.2, hy, hC.2.2.2.2.1 _ him⟩ ⟨fu_blind, fu_pre hC hF hS⟩ rfl hn hl.1 rfl (lv_room hw) hd hf
theorem k_ci {st0 rest : List Value} {mc ms : Nat} {post : Int32 → Sx → Prop} {av : Array Value} (hr : Rn X a s nL pc lv st0 rest ce sl mc ms (Qi X.G a post av)) (kk : ∀ r s1, post r s1 → wk X a s1 nL (pc + 3) lv (.int r :: rest) (ce + mc) (sl + ms)) : wk X a s nL pc lv st0 ce sl := fun H locs ls hF hS hl =>
  va_calli (hr H locs ls hF hS hl) hS (fun q _ h => h) (fun q h => h) (fun r u t H1 locs1 ht hvm hw hB hz hk hS1 => kk r u hw H1 locs1 ls (by rw [← ht]; exact hB) hS1 hl)
theorem k_ca {st0 rest : List Value} {mc ms : Nat} {post : Int32 → Sx → Prop} {av : Array Value} (hr : Rn X a s nL pc lv st0 rest ce sl mc ms (Qa X.G post av)) (kk : ∀ r a1 s1, post r s1 → wk X a1 s1 nL (pc + 3) lv (.int r :: rest) (ce + mc) (sl + ms)) : wk X a s nL pc lv st0 ce sl := fun H locs ls hF hS hl =>
  va_calli (hr H locs ls hF hS hl) hS (fun q _ h => h) (fun q h => h) (fun r u t H1 locs1 ht hvm hw hB hz hk hS1 => kk r u.1 u.2 hw H1 locs1 ls (by rw [← ht]; exact hB) hS1 hl)
theorem k_cl {st0 rest : List Value} {mc ms : Nat} {post : Int64 → Sx → Prop} {av : Array Value} (hr : Rn X a s nL pc lv st0 rest ce sl mc ms (Ql X.G a post av)) (kk : ∀ r s1, post r s1 → wk X a s1 nL (pc + 3) lv (.long r :: rest) (ce + mc) (sl + ms)) : wk X a s nL pc lv st0 ce sl := fun H locs ls hF hS hl =>
  va_calll (hr H locs ls hF hS hl) hS (fun q _ h => h) (fun q h => h) (fun r u t H1 locs1 ht hvm hw hB hz hk hS1 => kk r u hw H1 locs1 ls (by rw [← ht]; exact hB) hS1 hl)
theorem k_cv {st0 rest : List Value} {mc ms : Nat} {post : Sx → Prop} {av : Array Value} (hr : Rn X a s nL pc lv st0 rest ce sl mc ms (Qv X.G a post av)) (kk : ∀ s1, post s1 → wk X a s1 nL (pc + 3) lv rest (ce + mc) (sl + ms)) : wk X a s nL pc lv st0 ce sl := fun H locs ls hF hS hl =>
  va_callv (hr H locs ls hF hS hl) hS (fun q _ h => h) (fun q h => h) (fun u t H1 locs1 ht hvm hw hB hz hk hS1 => kk u hw H1 locs1 ls (by rw [← ht]; exact hB) hS1 hl)
theorem k_cq {st0 rest : List Value} {mc ms k off : Nat} {post : Option Nat → Sx → Prop} {av : Array Value} (hr : Rn X a s nL pc lv st0 rest ce sl mc ms (Qq X.G a k off post av)) (kn : ∀ s1, post none s1 → wk X a s1 nL (pc + 3) lv (.null :: rest) (ce + mc) (sl + ms)) (kk : ∀ j s1, post (some j) s1 → wk X a s1 nL (pc + 3) lv (.ref (adr X.G a k (off + j)) :: rest) (ce + mc) (sl + ms)) : wk X a s nL pc lv st0 ce sl := fun H locs ls hF hS hl =>
  va_callq (hr H locs ls hF hS hl) hS (fun q _ h => h) (fun q h => h) (fun r u t H1 locs1 ht hvm hw hB hz hk hS1 => by
    obtain ⟨o, u⟩ := u
    obtain ⟨rfl, hp⟩ := hw
    cases o with
    | none => exact kn u hp H1 locs1 ls (by rw [← ht]; exact hB) hS1 hl
    | some j => exact kk j u hp H1 locs1 ls (by rw [← ht]; exact hB) hS1 hl)
end CR
/-- a contract out of the walk of the body -/
theorem met_of {l : Launch} {y : MethodName} {cc : ByteArray} {nL mc ms : Nat} {ret : Option FieldType} {rm : Room} {av : List Value} {lv : List (Nat × Value)} {G : Gx} {a : Ax} {s : Sx} {Qc : Array Value → State → Outcome → State → Prop} (hy : plainFor y = true) (hlen : (lg_sl av).length ≤ nL) (hlv : lv_args 0 av = lv)
    (body : ∀ X : Kx, Cx X cc nL y.cls → X.2.1 = l → X.R = rm → X.Q = MQ X.below Qc X.av X.s mc ms (bs_ X.G) → X.meth.sig.returnType = ret → X.G = G → X.meth.name = y.name → wk X a s nL 0 lv [] 0 0) :
    Met l y (Cond.code y cc nL ret :: gw) rm (va_Pc av (fun U => FU G a s U)) Qc mc ms (bs_ G) := by
  refine va_MetF (cc := cc) (maxL := nL) (ret := ret) hy rfl ?_
  intro p e s0 m args below meth c s₁ B hml hv
  obtain ⟨rfl, hF, hK, hN, hb⟩ := hv
  have hts := atoms_spec (ws := Cond.code y cc nL ret :: gw) B.pre
  have hl := lv_entry av (n := nL) hlen
  rw [lg_entry_eq]
  rw [hlv] at hl
  exact body (p, l, e, rm, s0, m, av.toArray, below, meth, c, MQ below Qc av.toArray s0 mc ms (bs_ G), G) ⟨B.exec, B.bytes, hml, findClass_of_methodNamed B.named, fun w hw => hts w (List.mem_cons_of_mem _ hw), hK, hN, hb, B.notSynchronized⟩ rfl rfl rfl B.returns rfl (name_of_methodNamed B.named B.method).1 s0.heap [] _ hF va_S.rf hl
