/-! THE CLAIM OUT OF ONE WALK OF THE LAW'S BODY. Your part is whole_start (and what it stands on); all else here is the same for every law, but numbers. -/
def lw_P (b : Addr) (xs : List Int32) (args : Array Value) (s : State) : Prop := args = #[.ref b] ∧ s.IntsAt b xs ∧ xs.length ≤ 3072 ∧ (Jvm.Cond.and given_1 narrow_1).before args s = true
def lw_Q (_ : Array Value) (s : State) (o : Outcome) (t : State) : Prop := o = .returned (some (.int 1)) ∧ Framed s o t [] 600000 7302250
def lw_Z (below : List Frame) (a : Array Value) (s : State) : State → Prop := fun t => ∃ o, t.status = .running ∧ Ended t below o ∧ lw_Q a s o t
/-- the law's own end, with 1 on the stack, nothing written that was there before, its room as the claim has it -/
theorem lw_ret {p : Program} {l : Launch} {e : Env} {s : State} {m : MethodId} {below : List Frame} {meth : Method} {c : Code} {b : Nat} (hx : p.tables.exec = Jvm.exec) (hb : c.code = code) (hr : meth.sig.returnType = ret) (hlocks : meth.locks = false) {pc : Nat} {H : Heap} {ls : Array Slot} (hdg : decode code pc = .ok (.ireturn, 1)) : W p l e room_1 s m #[Value.ref b] below meth c H [] 600000 7302250 (lw_Z below #[Value.ref b] s) (F0 m pc ls [.int 1]) := by
  intro T hT X
  obtain ⟨fs, hret, hrun, hended, hW, hframe⟩ := X.leave (v := some (.int 1)) (hlocks := hlocks) (fun h => by rw [hr] at h; cases h)
  have hmeth' : T.vm.method? m = some meth := X.method'
  refine ⟨T.setFrames fs, ?_, .returned (some (.int 1)), hrun, hended, rfl, ⟨_, rfl⟩, hW, hframe⟩
  jvm_step X.here [X.here.top, hx, hb, hdg, hmeth', hr, ret, narrow_b1]
  (try refine ⟨rfl, ?_⟩); (try refine ⟨rfl, ?_⟩)
  first | (intro acts; rw [hret _ acts rfl rfl rfl]) | rw [hret _ _ rfl rfl rfl]
  exact Steps.refl _
/-- what holds at the law's entry: the machine, the code, the tables' words (any of lw_tbl by 'hts w (by decide +kernel)'), the script of L ints xs at the cell b, what the Statement gives of the start (any of its parts by flat_of_before) -/
def lw_At (p : Program) (s : State) (m : MethodId) (meth : Method) (c : Code) (b L : Nat) (xs : Nat → Int32) : Prop :=
  p.tables.exec = Jvm.exec ∧ c.code = code ∧ meth.sig.returnType = ret ∧ c.maxLocals = 4 ∧ s.vm.findClass RL = some m.cls ∧ (∀ w ∈ lw_tbl, w.before #[Value.ref b] s = true) ∧ va_X b L xs s s.heap ∧ b < s.heap.size ∧ meth.locks = false ∧ (Jvm.Cond.and given_1 narrow_1).before #[Value.ref b] s = true
theorem ic_6 : Int32.ofInt 6 = 6 := by decide
/-- the script as the walk has it -/
def lw_X (X : Kx) (b L : Nat) (xs : Nat → Int32) : Prop := va_X b L xs X.s X.s.heap ∧ b < X.s.heap.size ∧ X.G.2.2.2.2 = X.s.heap.size ∧ X.av = #[Value.ref b]
theorem lw_X.nb {X : Kx} {b L : Nat} {xs : Nat → Int32} (h : lw_X X b L xs) : ¬ bs_ X.G b := by show ¬ X.G.2.2.2.2 ≤ b; rw [h.2.2.1]; exact Nat.not_le.mpr h.2.1
theorem k_sld {X : Kx} {cc : ByteArray} {nL : Nat} {own : String} (hC : Cx X cc nL own) {a : Ax} {s : Sx} {lv : List (Nat × Value)} {st : List Value} {ce sl pc : Nat} {b L : Nat} {xs : Nat → Int32} (hX : lw_X X b L xs) {i : Int32} (hi : vp_in i L) (hd : decode cc pc = .ok (.iaload, 1)) (kk : wk X a s nL (pc + 1) lv (.int (xs i.toNatClampNeg) :: st) ce sl) : wk X a s nL pc lv (.int i :: .ref b :: st) ce sl := fun H locs ls hF hS hl => va_sld hC.1 hC.2.1 hX.1 hX.2.1 hX.nb hS hi hd (kk H locs ls hF hS hl)
theorem k_slen {X : Kx} {cc : ByteArray} {nL : Nat} {own : String} (hC : Cx X cc nL own) {a : Ax} {s : Sx} {lv : List (Nat × Value)} {st : List Value} {ce sl pc : Nat} {b L : Nat} {xs : Nat → Int32} (hX : lw_X X b L xs) (hd : decode cc pc = .ok (.arraylength, 1)) (kk : wk X a s nL (pc + 1) lv (.int (nI L) :: st) ce sl) : wk X a s nL pc lv (.ref b :: st) ce sl := fun H locs ls hF hS hl => va_slen hC.1 hC.2.1 hX.1 hX.2.1 hX.nb hS hd (kk H locs ls hF hS hl)
theorem k_lawret {X : Kx} {nL : Nat} {own : String} (hC : Cx X cL_law nL own) {a : Ax} {s : Sx} {lv : List (Nat × Value)} {ce sl pc : Nat} {b L : Nat} {xs : Nat → Int32} {v : Int32} (hR : X.R = room_1) (hQ : X.Q = lw_Z X.below X.av X.s) (hr : X.meth.sig.returnType = some .boolean) (hX : lw_X X b L xs) (hce : ce ≤ 600000) (hsl : sl ≤ 7302250) (hd : decode cL_law pc = .ok (.ireturn, 1)) (h : v = 1) : wk X a s nL pc lv [.int v] ce sl := fun H locs ls hF hS hl => by
  subst h
  rw [hQ, hR, hX.2.2.2]
  refine va_forget (fun q hq => by rw [← hX.2.2.1]; exact hS.2.2 q hq) ?_
  refine W.widen (k := 600000) (n := 7302250) hce hsl ?_
  exact lw_ret hC.1 hC.2.1 hr hC.2.2.2.2.2.2.2.2 hd
def w_L_law_232 (N L : Nat) (xs : Nat → Int32) (K18 : Sx → Int32 → Prop) (s : Sx) (x3 : Int32) : Prop := vp_in (x3 + 1) L ∧ vp_in (x3 + 2) L ∧ vp_in (x3 + 3) L ∧ w_X11_camp N (xs (x3 + 1).toNatClampNeg) (xs (x3 + 2).toNatClampNeg) (xs (x3 + 3).toNatClampNeg) s (fun r_8 s_7 => vp_in (x3 + 1) L ∧ vp_in (x3 + 2) L ∧ vp_in (x3 + 3) L ∧ w_X12_camp N (xs (x3 + 1).toNatClampNeg) (xs (x3 + 2).toNatClampNeg) (xs (x3 + 3).toNatClampNeg) s_7 (fun r_13 s_12 => (r_8 = r_13 → ∀ x_15 : Int32, x_15 = x3 + 6 → K18 s_12 x_15) ∧ (¬ (r_8 = r_13) → (0 : Int32) = 1)))
def w_L_law_275 (N L : Nat) (xs : Nat → Int32) (K18 : Sx → Int32 → Prop) (s : Sx) (x3 : Int32) : Prop := w_X11_man N s (fun r_18 s_17 => w_X12_man N s_17 (fun r_20 s_19 => (r_18 = r_20 → ∀ x_22 : Int32, x_22 = x3 + 6 → K18 s_19 x_22) ∧ (¬ (r_18 = r_20) → (0 : Int32) = 1)))
def w_L_law_288 (N L : Nat) (xs : Nat → Int32) (K18 : Sx → Int32 → Prop) (s : Sx) (x3 : Int32) : Prop := vp_in (x3 + 1) L ∧ vp_in (x3 + 2) L ∧ vp_in (x3 + 3) L ∧ vp_in (x3 + 4) L ∧ vp_in (x3 + 5) L ∧ w_X11_post N (xs (x3 + 1).toNatClampNeg) (xs (x3 + 2).toNatClampNeg) (xs (x3 + 3).toNatClampNeg) (xs (x3 + 4).toNatClampNeg) (xs (x3 + 5).toNatClampNeg) s (fun r_30 s_29 => vp_in (x3 + 1) L ∧ vp_in (x3 + 2) L ∧ vp_in (x3 + 3) L ∧ vp_in (x3 + 4) L ∧ vp_in (x3 + 5) L ∧ w_X12_post N (xs (x3 + 1).toNatClampNeg) (xs (x3 + 2).toNatClampNeg) (xs (x3 + 3).toNatClampNeg) (xs (x3 + 4).toNatClampNeg) (xs (x3 + 5).toNatClampNeg) s_29 (fun r_38 s_37 => (r_30 = r_38 → ∀ x_40 : Int32, x_40 = x3 + 6 → K18 s_37 x_40) ∧ (¬ (r_30 = r_38) → (0 : Int32) = 1)))
def w_L_law_351 (N L : Nat) (xs : Nat → Int32) (K18 : Sx → Int32 → Prop) (s : Sx) (x3 : Int32) : Prop := vp_in (x3 + 1) L ∧ vp_in (x3 + 2) L ∧ w_X11_day N (xs (x3 + 1).toNatClampNeg) (xs (x3 + 2).toNatClampNeg) s (fun r_45 s_44 => vp_in (x3 + 1) L ∧ vp_in (x3 + 2) L ∧ w_X12_day N (xs (x3 + 1).toNatClampNeg) (xs (x3 + 2).toNatClampNeg) s_44 (fun r_49 s_48 => (r_45 = r_49 → ∀ x_51 : Int32, x_51 = x3 + 6 → K18 s_48 x_51) ∧ (¬ (r_45 = r_49) → (0 : Int32) = 1)))
def w_L_law_384 (N L : Nat) (xs : Nat → Int32) (K18 : Sx → Int32 → Prop) (s : Sx) (x3 : Int32) : Prop := vp_in (x3 + 1) L ∧ vp_in (x3 + 2) L ∧ w_X11_beds N (xs (x3 + 1).toNatClampNeg) (xs (x3 + 2).toNatClampNeg) s (fun r_56 s_55 => vp_in (x3 + 1) L ∧ vp_in (x3 + 2) L ∧ w_X12_beds N (xs (x3 + 1).toNatClampNeg) (xs (x3 + 2).toNatClampNeg) s_55 (fun r_60 s_59 => (r_56 = r_60 → ∀ x_62 : Int32, x_62 = x3 + 6 → K18 s_59 x_62) ∧ (¬ (r_56 = r_60) → (0 : Int32) = 1)))
def w_L_law_417 (N L : Nat) (xs : Nat → Int32) (K18 : Sx → Int32 → Prop) (s : Sx) (x3 : Int32) : Prop := vp_in (x3 + 1) L ∧ w_X11_over N (xs (x3 + 1).toNatClampNeg) s (fun r_66 s_65 => vp_in (x3 + 1) L ∧ w_X12_over N (xs (x3 + 1).toNatClampNeg) s_65 (fun r_69 s_68 => (r_66 = r_69 → ∀ x_71 : Int32, x_71 = x3 + 6 → K18 s_68 x_71) ∧ (¬ (r_66 = r_69) → (0 : Int32) = 1)))
def w_L_law_440 (N L : Nat) (xs : Nat → Int32) (K18 : Sx → Int32 → Prop) (s : Sx) (x3 : Int32) : Prop := vp_in (x3 + 1) L ∧ vp_in (x3 + 2) L ∧ vp_in (x3 + 3) L ∧ vp_in (x3 + 4) L ∧ vp_in (x3 + 5) L ∧ w_X11_order N (xs (x3 + 1).toNatClampNeg) (xs (x3 + 2).toNatClampNeg) (xs (x3 + 3).toNatClampNeg) (xs (x3 + 4).toNatClampNeg) (xs (x3 + 5).toNatClampNeg) s (fun r_79 s_78 => vp_in (x3 + 1) L ∧ vp_in (x3 + 2) L ∧ vp_in (x3 + 3) L ∧ vp_in (x3 + 4) L ∧ vp_in (x3 + 5) L ∧ w_X12_order N (xs (x3 + 1).toNatClampNeg) (xs (x3 + 2).toNatClampNeg) (xs (x3 + 3).toNatClampNeg) (xs (x3 + 4).toNatClampNeg) (xs (x3 + 5).toNatClampNeg) s_78 (fun r_87 s_86 => (r_79 = r_87 → ∀ x_89 : Int32, x_89 = x3 + 6 → K18 s_86 x_89) ∧ (¬ (r_79 = r_87) → (0 : Int32) = 1)))
def w_L_law_503 (N L : Nat) (xs : Nat → Int32) (K18 : Sx → Int32 → Prop) (s : Sx) (x3 : Int32) : Prop := vp_in (x3 + 1) L ∧ vp_in (x3 + 2) L ∧ w_X11_ofOrder N (xs (x3 + 1).toNatClampNeg) (xs (x3 + 2).toNatClampNeg) s (fun r_94 s_93 => vp_in (x3 + 1) L ∧ vp_in (x3 + 2) L ∧ w_X12_ofOrder N (xs (x3 + 1).toNatClampNeg) (xs (x3 + 2).toNatClampNeg) s_93 (fun r_98 s_97 => (r_94 = r_98 → ∀ x_100 : Int32, x_100 = x3 + 6 → K18 s_97 x_100) ∧ (¬ (r_94 = r_98) → (0 : Int32) = 1)))
def w_L_law_536 (N L : Nat) (xs : Nat → Int32) (K18 : Sx → Int32 → Prop) (s : Sx) (x3 : Int32) : Prop := vp_in (x3 + 1) L ∧ vp_in (x3 + 2) L ∧ w_X11_delay N (xs (x3 + 1).toNatClampNeg) (xs (x3 + 2).toNatClampNeg) s (fun r_105 s_104 => vp_in (x3 + 1) L ∧ vp_in (x3 + 2) L ∧ w_X12_delay N (xs (x3 + 1).toNatClampNeg) (xs (x3 + 2).toNatClampNeg) s_104 (fun r_109 s_108 => (r_105 = r_109 → ∀ x_111 : Int32, x_111 = x3 + 6 → K18 s_108 x_111) ∧ (¬ (r_105 = r_109) → (0 : Int32) = 1)))
def w_L_law_569 (N L : Nat) (xs : Nat → Int32) (K18 : Sx → Int32 → Prop) (s : Sx) (x3 : Int32) : Prop := vp_in (x3 + 1) L ∧ vp_in (x3 + 2) L ∧ vp_in (x3 + 3) L ∧ vp_in (x3 + 4) L ∧ w_X11_word N (xs (x3 + 1).toNatClampNeg) (xs (x3 + 2).toNatClampNeg) (xs (x3 + 3).toNatClampNeg) (xs (x3 + 4).toNatClampNeg) s (fun r_118 s_117 => vp_in (x3 + 1) L ∧ vp_in (x3 + 2) L ∧ vp_in (x3 + 3) L ∧ vp_in (x3 + 4) L ∧ w_X12_word N (xs (x3 + 1).toNatClampNeg) (xs (x3 + 2).toNatClampNeg) (xs (x3 + 3).toNatClampNeg) (xs (x3 + 4).toNatClampNeg) s_117 (fun r_124 s_123 => (r_118 = r_124 → ∀ x_126 : Int32, x_126 = x3 + 6 → K18 s_123 x_126) ∧ (¬ (r_118 = r_124) → (0 : Int32) = 1)))
def w_L_law_622 (N L : Nat) (xs : Nat → Int32) (K18 : Sx → Int32 → Prop) (s : Sx) (x3 : Int32) : Prop := vp_in (x3 + 1) L ∧ vp_in (x3 + 2) L ∧ vp_in (x3 + 3) L ∧ vp_in (x3 + 4) L ∧ w_X11_why N (xs (x3 + 1).toNatClampNeg) (xs (x3 + 2).toNatClampNeg) (xs (x3 + 3).toNatClampNeg) (xs (x3 + 4).toNatClampNeg) s (fun r_133 s_132 => vp_in (x3 + 1) L ∧ vp_in (x3 + 2) L ∧ vp_in (x3 + 3) L ∧ vp_in (x3 + 4) L ∧ w_X12_why N (xs (x3 + 1).toNatClampNeg) (xs (x3 + 2).toNatClampNeg) (xs (x3 + 3).toNatClampNeg) (xs (x3 + 4).toNatClampNeg) s_132 (fun r_139 s_138 => (r_133 = r_139 → ∀ x_141 : Int32, x_141 = x3 + 6 → K18 s_138 x_141) ∧ (¬ (r_133 = r_139) → (0 : Int32) = 1)))
def w_L_law_675 (N L : Nat) (xs : Nat → Int32) (K18 : Sx → Int32 → Prop) (s : Sx) (x3 : Int32) : Prop := vp_in (x3 + 1) L ∧ vp_in (x3 + 2) L ∧ w_X11_quarrel N (xs (x3 + 1).toNatClampNeg) (xs (x3 + 2).toNatClampNeg) s (fun r_146 s_145 => vp_in (x3 + 1) L ∧ vp_in (x3 + 2) L ∧ w_X12_quarrel N (xs (x3 + 1).toNatClampNeg) (xs (x3 + 2).toNatClampNeg) s_145 (fun r_150 s_149 => (r_146 = r_150 → ∀ x_152 : Int32, x_152 = x3 + 6 → K18 s_149 x_152) ∧ (¬ (r_146 = r_150) → (0 : Int32) = 1)))
def w_L_law_708 (N L : Nat) (xs : Nat → Int32) (K18 : Sx → Int32 → Prop) (s : Sx) (x3 : Int32) : Prop := vp_in (x3 + 1) L ∧ vp_in (x3 + 2) L ∧ w_X11_rate N (xs (x3 + 1).toNatClampNeg) (xs (x3 + 2).toNatClampNeg) s (fun r_157 s_156 => vp_in (x3 + 1) L ∧ vp_in (x3 + 2) L ∧ w_X12_rate N (xs (x3 + 1).toNatClampNeg) (xs (x3 + 2).toNatClampNeg) s_156 (fun r_161 s_160 => (r_157 = r_161 → ∀ x_163 : Int32, x_163 = x3 + 6 → K18 s_160 x_163) ∧ (¬ (r_157 = r_161) → (0 : Int32) = 1)))
def w_L_law_741 (N L : Nat) (xs : Nat → Int32) (K18 : Sx → Int32 → Prop) (s : Sx) (x3 : Int32) : Prop := vp_in (x3 + 1) L ∧ vp_in (x3 + 2) L ∧ w_X11_home N (xs (x3 + 1).toNatClampNeg) (xs (x3 + 2).toNatClampNeg) s (fun r_168 s_167 => vp_in (x3 + 1) L ∧ vp_in (x3 + 2) L ∧ w_X12_home N (xs (x3 + 1).toNatClampNeg) (xs (x3 + 2).toNatClampNeg) s_167 (fun r_172 s_171 => (r_168 = r_172 → ∀ x_174 : Int32, x_174 = x3 + 6 → K18 s_171 x_174) ∧ (¬ (r_168 = r_172) → (0 : Int32) = 1)))
def w_L_law_774 (N L : Nat) (xs : Nat → Int32) (K18 : Sx → Int32 → Prop) (s : Sx) (x3 : Int32) : Prop := vp_in (x3 + 1) L ∧ vp_in (x3 + 2) L ∧ vp_in (x3 + 3) L ∧ w_X11_fine N (xs (x3 + 1).toNatClampNeg) (xs (x3 + 2).toNatClampNeg) (xs (x3 + 3).toNatClampNeg) s (fun r_180 s_179 => vp_in (x3 + 1) L ∧ vp_in (x3 + 2) L ∧ vp_in (x3 + 3) L ∧ w_X12_fine N (xs (x3 + 1).toNatClampNeg) (xs (x3 + 2).toNatClampNeg) (xs (x3 + 3).toNatClampNeg) s_179 (fun r_185 s_184 => (r_180 = r_185 → ∀ x_187 : Int32, x_187 = x3 + 6 → K18 s_184 x_187) ∧ (¬ (r_180 = r_185) → (0 : Int32) = 1)))
def w_L_law_817 (N L : Nat) (xs : Nat → Int32) (K18 : Sx → Int32 → Prop) (s : Sx) (x3 : Int32) : Prop := vp_in (x3 + 1) L ∧ vp_in (x3 + 2) L ∧ vp_in (x3 + 3) L ∧ vp_in (x3 + 4) L ∧ w_X11_pay N (xs (x3 + 1).toNatClampNeg) (xs (x3 + 2).toNatClampNeg) (xs (x3 + 3).toNatClampNeg) (xs (x3 + 4).toNatClampNeg) s (fun r_194 s_193 => vp_in (x3 + 1) L ∧ vp_in (x3 + 2) L ∧ vp_in (x3 + 3) L ∧ vp_in (x3 + 4) L ∧ w_X12_pay N (xs (x3 + 1).toNatClampNeg) (xs (x3 + 2).toNatClampNeg) (xs (x3 + 3).toNatClampNeg) (xs (x3 + 4).toNatClampNeg) s_193 (fun r_200 s_199 => (r_194 = r_200 → ∀ x_202 : Int32, x_202 = x3 + 6 → K18 s_199 x_202) ∧ (¬ (r_194 = r_200) → (0 : Int32) = 1)))
def w_L_law_870 (N L : Nat) (xs : Nat → Int32) (K18 : Sx → Int32 → Prop) (s : Sx) (x3 : Int32) : Prop := vp_in (x3 + 1) L ∧ vp_in (x3 + 2) L ∧ vp_in (x3 + 3) L ∧ w_X11_work N (xs (x3 + 1).toNatClampNeg) (xs (x3 + 2).toNatClampNeg) (xs (x3 + 3).toNatClampNeg) s (fun r_208 s_207 => vp_in (x3 + 1) L ∧ vp_in (x3 + 2) L ∧ vp_in (x3 + 3) L ∧ w_X12_work N (xs (x3 + 1).toNatClampNeg) (xs (x3 + 2).toNatClampNeg) (xs (x3 + 3).toNatClampNeg) s_207 (fun r_214 s_213 => (r_208 = r_214 → ∀ x_216 : Int32, x_216 = x3 + 6 → K18 s_213 x_216) ∧ (¬ (r_208 = r_214) → (0 : Int32) = 1)))
def w_L_law_913 (N L : Nat) (xs : Nat → Int32) (K18 : Sx → Int32 → Prop) (s : Sx) (x3 : Int32) : Prop := vp_in (x3 + 1) L ∧ vp_in (x3 + 2) L ∧ vp_in (x3 + 3) L ∧ w_X11_hands N (xs (x3 + 1).toNatClampNeg) (xs (x3 + 2).toNatClampNeg) (xs (x3 + 3).toNatClampNeg) s (fun r_222 s_221 => vp_in (x3 + 1) L ∧ vp_in (x3 + 2) L ∧ vp_in (x3 + 3) L ∧ w_X12_hands N (xs (x3 + 1).toNatClampNeg) (xs (x3 + 2).toNatClampNeg) (xs (x3 + 3).toNatClampNeg) s_221 (fun r_227 s_226 => (r_222 = r_227 → ∀ x_229 : Int32, x_229 = x3 + 6 → K18 s_226 x_229) ∧ (¬ (r_222 = r_227) → (0 : Int32) = 1)))
def w_L_law_956 (N L : Nat) (xs : Nat → Int32) (K18 : Sx → Int32 → Prop) (s : Sx) (x3 : Int32) : Prop := vp_in (x3 + 1) L ∧ vp_in (x3 + 2) L ∧ vp_in (x3 + 3) L ∧ vp_in (x3 + 4) L ∧ vp_in (x3 + 5) L ∧ w_X11_row N (xs (x3 + 1).toNatClampNeg) (xs (x3 + 2).toNatClampNeg) (xs (x3 + 3).toNatClampNeg) (xs (x3 + 4).toNatClampNeg) (xs (x3 + 5).toNatClampNeg) s (fun r_237 s_236 => vp_in (x3 + 1) L ∧ vp_in (x3 + 2) L ∧ vp_in (x3 + 3) L ∧ vp_in (x3 + 4) L ∧ vp_in (x3 + 5) L ∧ w_X12_row N (xs (x3 + 1).toNatClampNeg) (xs (x3 + 2).toNatClampNeg) (xs (x3 + 3).toNatClampNeg) (xs (x3 + 4).toNatClampNeg) (xs (x3 + 5).toNatClampNeg) s_236 (fun r_244 s_243 => (r_237 = r_244 → ∀ x_246 : Int32, x_246 = x3 + 6 → K18 s_243 x_246) ∧ (¬ (r_237 = r_244) → (0 : Int32) = 1)))
def w_L_law_1019 (N L : Nat) (xs : Nat → Int32) (K18 : Sx → Int32 → Prop) (s : Sx) (x3 : Int32) : Prop := w_X11_week N s (fun r_249 s_248 => w_X12_week N s_248 (fun r_251 s_250 => (r_249 = r_251 → ∀ x_253 : Int32, x_253 = x3 + 6 → K18 s_250 x_253) ∧ (¬ (r_249 = r_251) → (0 : Int32) = 1)))
def w_L_law_1032 (N L : Nat) (xs : Nat → Int32) (K18 : Sx → Int32 → Prop) (s : Sx) (x3 : Int32) : Prop := vp_in (x3 + 1) L ∧ vp_in (x3 + 2) L ∧ w_X11_ofWork N (xs (x3 + 1).toNatClampNeg) (xs (x3 + 2).toNatClampNeg) s (fun r_258 s_257 => vp_in (x3 + 1) L ∧ vp_in (x3 + 2) L ∧ w_X12_ofWork N (xs (x3 + 1).toNatClampNeg) (xs (x3 + 2).toNatClampNeg) s_257 (fun r_262 s_261 => (r_258 = r_262 → ∀ x_264 : Int32, x_264 = x3 + 6 → K18 s_261 x_264) ∧ (¬ (r_258 = r_262) → (0 : Int32) = 1)))
def w_L_law_1065 (N L : Nat) (xs : Nat → Int32) (K18 : Sx → Int32 → Prop) (s : Sx) (x3 : Int32) : Prop := vp_in (x3 + 1) L ∧ vp_in (x3 + 2) L ∧ vp_in (x3 + 3) L ∧ w_X11_level N (xs (x3 + 1).toNatClampNeg) (xs (x3 + 2).toNatClampNeg) (xs (x3 + 3).toNatClampNeg) s (fun r_270 s_269 => vp_in (x3 + 1) L ∧ vp_in (x3 + 2) L ∧ vp_in (x3 + 3) L ∧ w_X12_level N (xs (x3 + 1).toNatClampNeg) (xs (x3 + 2).toNatClampNeg) (xs (x3 + 3).toNatClampNeg) s_269 (fun r_275 s_274 => (r_270 = r_275 → ∀ x_277 : Int32, x_277 = x3 + 6 → K18 s_274 x_277) ∧ (¬ (r_270 = r_275) → (0 : Int32) = 1)))
def w_L_law_1108 (N L : Nat) (xs : Nat → Int32) (K18 : Sx → Int32 → Prop) (s : Sx) (x3 : Int32) : Prop := vp_in (x3 + 1) L ∧ vp_in (x3 + 2) L ∧ w_X11_told N (xs (x3 + 1).toNatClampNeg) (xs (x3 + 2).toNatClampNeg) s (fun r_282 s_281 => vp_in (x3 + 1) L ∧ vp_in (x3 + 2) L ∧ w_X12_told N (xs (x3 + 1).toNatClampNeg) (xs (x3 + 2).toNatClampNeg) s_281 (fun r_286 s_285 => ((lg_cmp r_282 r_286) = 0 → ∀ x_288 : Int32, x_288 = x3 + 6 → K18 s_285 x_288) ∧ (¬ ((lg_cmp r_282 r_286) = 0) → (0 : Int32) = 1)))
def w_L_law_1142 (N L : Nat) (xs : Nat → Int32) (K18 : Sx → Int32 → Prop) (s : Sx) (x3 : Int32) : Prop := vp_in (x3 + 1) L ∧ w_X11_grew N (xs (x3 + 1).toNatClampNeg) s (fun r_292 s_291 => vp_in (x3 + 1) L ∧ w_X12_grew N (xs (x3 + 1).toNatClampNeg) s_291 (fun r_295 s_294 => (r_292 = r_295 → ∀ x_297 : Int32, x_297 = x3 + 6 → K18 s_294 x_297) ∧ (¬ (r_292 = r_295) → (0 : Int32) = 1)))
def w_L_law_1165 (N L : Nat) (xs : Nat → Int32) (K18 : Sx → Int32 → Prop) (s : Sx) (x3 : Int32) : Prop := vp_in (x3 + 1) L ∧ vp_in (x3 + 2) L ∧ vp_in (x3 + 3) L ∧ vp_in (x3 + 4) L ∧ w_X11_stand N (xs (x3 + 1).toNatClampNeg) (xs (x3 + 2).toNatClampNeg) (xs (x3 + 3).toNatClampNeg) (xs (x3 + 4).toNatClampNeg) s (fun r_304 s_303 => vp_in (x3 + 1) L ∧ vp_in (x3 + 2) L ∧ vp_in (x3 + 3) L ∧ vp_in (x3 + 4) L ∧ w_X12_stand N (xs (x3 + 1).toNatClampNeg) (xs (x3 + 2).toNatClampNeg) (xs (x3 + 3).toNatClampNeg) (xs (x3 + 4).toNatClampNeg) s_303 (fun r_310 s_309 => (r_304 = r_310 → ∀ x_312 : Int32, x_312 = x3 + 6 → K18 s_309 x_312) ∧ (¬ (r_304 = r_310) → (0 : Int32) = 1)))
def w_L_law_1218 (N L : Nat) (xs : Nat → Int32) (K18 : Sx → Int32 → Prop) (s : Sx) (x3 : Int32) : Prop := vp_in (x3 + 1) L ∧ vp_in (x3 + 2) L ∧ w_X11_live N (xs (x3 + 1).toNatClampNeg) (xs (x3 + 2).toNatClampNeg) s (fun r_317 s_316 => vp_in (x3 + 1) L ∧ vp_in (x3 + 2) L ∧ w_X12_live N (xs (x3 + 1).toNatClampNeg) (xs (x3 + 2).toNatClampNeg) s_316 (fun r_321 s_320 => (r_317 = r_321 → ∀ x_323 : Int32, x_323 = x3 + 6 → K18 s_320 x_323) ∧ (¬ (r_317 = r_321) → (0 : Int32) = 1)))
def w_L_law_1251 (N L : Nat) (xs : Nat → Int32) (K18 : Sx → Int32 → Prop) (s : Sx) (x3 : Int32) : Prop := vp_in (x3 + 1) L ∧ vp_in (x3 + 2) L ∧ w_X11_forest N (xs (x3 + 1).toNatClampNeg) (xs (x3 + 2).toNatClampNeg) s (fun r_328 s_327 => vp_in (x3 + 1) L ∧ vp_in (x3 + 2) L ∧ w_X12_forest N (xs (x3 + 1).toNatClampNeg) (xs (x3 + 2).toNatClampNeg) s_327 (fun r_332 s_331 => ((lg_cmp r_328 r_332) = 0 → ∀ x_334 : Int32, x_334 = x3 + 6 → K18 s_331 x_334) ∧ (¬ ((lg_cmp r_328 r_332) = 0) → (0 : Int32) = 1)))
def w_L_law_1285 (N L : Nat) (xs : Nat → Int32) (K18 : Sx → Int32 → Prop) (s : Sx) (x3 : Int32) : Prop := vp_in (x3 + 1) L ∧ vp_in (x3 + 2) L ∧ vp_in (x3 + 3) L ∧ vp_in (x3 + 4) L ∧ w_X11_fire N (xs (x3 + 1).toNatClampNeg) (xs (x3 + 2).toNatClampNeg) (xs (x3 + 3).toNatClampNeg) (xs (x3 + 4).toNatClampNeg) s (fun r_341 s_340 => vp_in (x3 + 1) L ∧ vp_in (x3 + 2) L ∧ vp_in (x3 + 3) L ∧ vp_in (x3 + 4) L ∧ w_X12_fire N (xs (x3 + 1).toNatClampNeg) (xs (x3 + 2).toNatClampNeg) (xs (x3 + 3).toNatClampNeg) (xs (x3 + 4).toNatClampNeg) s_340 (fun r_347 s_346 => (r_341 = r_347 → ∀ x_349 : Int32, x_349 = x3 + 6 → K18 s_346 x_349) ∧ (¬ (r_341 = r_347) → (0 : Int32) = 1)))
def w_L_law_1338 (N L : Nat) (xs : Nat → Int32) (K18 : Sx → Int32 → Prop) (s : Sx) (x3 : Int32) : Prop := vp_in (x3 + 1) L ∧ vp_in (x3 + 2) L ∧ w_X11_crew N (xs (x3 + 1).toNatClampNeg) (xs (x3 + 2).toNatClampNeg) s (fun r_354 s_353 => vp_in (x3 + 1) L ∧ vp_in (x3 + 2) L ∧ w_X12_crew N (xs (x3 + 1).toNatClampNeg) (xs (x3 + 2).toNatClampNeg) s_353 (fun r_358 s_357 => (r_354 = r_358 → ∀ x_360 : Int32, x_360 = x3 + 6 → K18 s_357 x_360) ∧ (¬ (r_354 = r_358) → (0 : Int32) = 1)))
def w_L_law_1371 (N L : Nat) (xs : Nat → Int32) (K18 : Sx → Int32 → Prop) (s : Sx) (x3 : Int32) : Prop := vp_in (x3 + 1) L ∧ w_X11_lost N (xs (x3 + 1).toNatClampNeg) s (fun r_364 s_363 => vp_in (x3 + 1) L ∧ w_X12_lost N (xs (x3 + 1).toNatClampNeg) s_363 (fun r_367 s_366 => (r_364 = r_367 → ∀ x_369 : Int32, x_369 = x3 + 6 → K18 s_366 x_369) ∧ (¬ (r_364 = r_367) → (0 : Int32) = 1)))
def w_L_law_1394 (N L : Nat) (xs : Nat → Int32) (K18 : Sx → Int32 → Prop) (s : Sx) (x3 : Int32) : Prop := vp_in (x3 + 1) L ∧ w_X11_call N (xs (x3 + 1).toNatClampNeg) s (fun r_373 s_372 => vp_in (x3 + 1) L ∧ w_X12_call N (xs (x3 + 1).toNatClampNeg) s_372 (fun r_376 s_375 => (r_373 = r_376 → ∀ x_378 : Int32, x_378 = x3 + 6 → K18 s_375 x_378) ∧ (¬ (r_373 = r_376) → (0 : Int32) = 1)))
def w_L_law_1478 (N L : Nat) (xs : Nat → Int32) (K18 : Sx → Int32 → Prop) (s : Sx) (x3 : Int32) (z0 : Int32) (z2 : Int32) (z3 : Int32) (z4 : Int32) (z5 : Int32) : Prop := w_X12_place N z2 z3 z4 z5 s (fun r_393 s_392 => (z0 = r_393 → ∀ x_395 : Int32, x_395 = x3 + 6 → K18 s_392 x_395) ∧ (¬ (z0 = r_393) → (0 : Int32) = 1))
def w_L_law_1446 (N L : Nat) (xs : Nat → Int32) (K18 : Sx → Int32 → Prop) (s : Sx) (x3 : Int32) (z1 : Int32) (z2 : Int32) (z3 : Int32) (z4 : Int32) : Prop := w_X11_place N z1 z2 z3 z4 s (fun r_386 s_385 => vp_in (x3 + 1) L ∧ vp_in (x3 + 2) L ∧ vp_in (x3 + 3) L ∧ vp_in (x3 + 4) L ∧ ((xs (x3 + 4).toNatClampNeg) = 0 → w_L_law_1478 N L xs K18 s_385 x3 r_386 (xs (x3 + 1).toNatClampNeg) (xs (x3 + 2).toNatClampNeg) (xs (x3 + 3).toNatClampNeg) 0) ∧ (¬ ((xs (x3 + 4).toNatClampNeg) = 0) → w_L_law_1478 N L xs K18 s_385 x3 r_386 (xs (x3 + 1).toNatClampNeg) (xs (x3 + 2).toNatClampNeg) (xs (x3 + 3).toNatClampNeg) 1))
def w_L_law_1417 (N L : Nat) (xs : Nat → Int32) (K18 : Sx → Int32 → Prop) (s : Sx) (x3 : Int32) : Prop := vp_in (x3 + 1) L ∧ vp_in (x3 + 2) L ∧ vp_in (x3 + 3) L ∧ vp_in (x3 + 4) L ∧ ((xs (x3 + 4).toNatClampNeg) = 0 → w_L_law_1446 N L xs K18 s x3 (xs (x3 + 1).toNatClampNeg) (xs (x3 + 2).toNatClampNeg) (xs (x3 + 3).toNatClampNeg) 0) ∧ (¬ ((xs (x3 + 4).toNatClampNeg) = 0) → w_L_law_1446 N L xs K18 s x3 (xs (x3 + 1).toNatClampNeg) (xs (x3 + 2).toNatClampNeg) (xs (x3 + 3).toNatClampNeg) 1)
def w_L_law_1486 (N L : Nat) (xs : Nat → Int32) (K18 : Sx → Int32 → Prop) (s : Sx) (x3 : Int32) : Prop := vp_in (x3 + 1) L ∧ w_X11_move N (xs (x3 + 1).toNatClampNeg) s (fun r_399 s_398 => vp_in (x3 + 1) L ∧ w_X12_move N (xs (x3 + 1).toNatClampNeg) s_398 (fun r_402 s_401 => ((lg_cmp r_399 r_402) = 0 → ∀ x_404 : Int32, x_404 = x3 + 6 → K18 s_401 x_404) ∧ (¬ ((lg_cmp r_399 r_402) = 0) → (0 : Int32) = 1)))
def w_L_law_1510 (N L : Nat) (xs : Nat → Int32) (K18 : Sx → Int32 → Prop) (s : Sx) (x3 : Int32) : Prop := vp_in (x3 + 1) L ∧ vp_in (x3 + 2) L ∧ vp_in (x3 + 3) L ∧ vp_in (x3 + 4) L ∧ w_X11_gain N (xs (x3 + 1).toNatClampNeg) (xs (x3 + 2).toNatClampNeg) (xs (x3 + 3).toNatClampNeg) (xs (x3 + 4).toNatClampNeg) s (fun r_411 s_410 => vp_in (x3 + 1) L ∧ vp_in (x3 + 2) L ∧ vp_in (x3 + 3) L ∧ vp_in (x3 + 4) L ∧ w_X12_gain N (xs (x3 + 1).toNatClampNeg) (xs (x3 + 2).toNatClampNeg) (xs (x3 + 3).toNatClampNeg) (xs (x3 + 4).toNatClampNeg) s_410 (fun r_417 s_416 => ((lg_cmp r_411 r_417) = 0 → ∀ x_419 : Int32, x_419 = x3 + 6 → K18 s_416 x_419) ∧ (¬ ((lg_cmp r_411 r_417) = 0) → (0 : Int32) = 1)))
def w_L_law_1564 (N L : Nat) (xs : Nat → Int32) (K18 : Sx → Int32 → Prop) (s : Sx) (x3 : Int32) : Prop := w_X11_go N s (fun r_422 s_421 => w_X12_go N s_421 (fun r_424 s_423 => (r_422 = r_424 → ∀ x_426 : Int32, x_426 = x3 + 6 → K18 s_423 x_426) ∧ (¬ (r_422 = r_424) → (0 : Int32) = 1)))
def w_L_law_1577 (N L : Nat) (xs : Nat → Int32) (K18 : Sx → Int32 → Prop) (s : Sx) (x3 : Int32) : Prop := vp_in (x3 + 1) L ∧ vp_in (x3 + 2) L ∧ w_X11_spot N (xs (x3 + 1).toNatClampNeg) (xs (x3 + 2).toNatClampNeg) s (fun r_431 s_430 => vp_in (x3 + 1) L ∧ vp_in (x3 + 2) L ∧ w_X12_spot N (xs (x3 + 1).toNatClampNeg) (xs (x3 + 2).toNatClampNeg) s_430 (fun r_435 s_434 => (r_431 = r_435 → ∀ x_437 : Int32, x_437 = x3 + 6 → K18 s_434 x_437) ∧ (¬ (r_431 = r_435) → (0 : Int32) = 1)))
def w_L_law_1610 (N L : Nat) (xs : Nat → Int32) (K18 : Sx → Int32 → Prop) (s : Sx) (x3 : Int32) : Prop := vp_in (x3 + 1) L ∧ vp_in (x3 + 2) L ∧ vp_in (x3 + 3) L ∧ w_X11_sheet N (xs (x3 + 1).toNatClampNeg) (xs (x3 + 2).toNatClampNeg) (xs (x3 + 3).toNatClampNeg) s (fun r_443 s_442 => vp_in (x3 + 1) L ∧ vp_in (x3 + 2) L ∧ vp_in (x3 + 3) L ∧ w_X12_sheet N (xs (x3 + 1).toNatClampNeg) (xs (x3 + 2).toNatClampNeg) (xs (x3 + 3).toNatClampNeg) s_442 (fun r_448 s_447 => (r_443 = r_448 → ∀ x_450 : Int32, x_450 = x3 + 6 → K18 s_447 x_450) ∧ (¬ (r_443 = r_448) → (0 : Int32) = 1)))
def w_L_law_1653 (N L : Nat) (xs : Nat → Int32) (K18 : Sx → Int32 → Prop) (s : Sx) (x3 : Int32) : Prop := vp_in (x3 + 1) L ∧ w_X11_lose N (xs (x3 + 1).toNatClampNeg) s (fun r_454 s_453 => vp_in (x3 + 1) L ∧ w_X12_lose N (xs (x3 + 1).toNatClampNeg) s_453 (fun r_457 s_456 => (r_454 = r_457 → ∀ x_459 : Int32, x_459 = x3 + 6 → K18 s_456 x_459) ∧ (¬ (r_454 = r_457) → (0 : Int32) = 1)))
def w_L_law_1676 (N L : Nat) (xs : Nat → Int32) (K18 : Sx → Int32 → Prop) (s : Sx) (x3 : Int32) : Prop := vp_in (x3 + 1) L ∧ vp_in (x3 + 2) L ∧ vp_in (x3 + 3) L ∧ w_X11_put N (xs (x3 + 1).toNatClampNeg) (xs (x3 + 2).toNatClampNeg) (xs (x3 + 3).toNatClampNeg) s (fun r_465 s_464 => vp_in (x3 + 1) L ∧ vp_in (x3 + 2) L ∧ vp_in (x3 + 3) L ∧ w_X12_put N (xs (x3 + 1).toNatClampNeg) (xs (x3 + 2).toNatClampNeg) (xs (x3 + 3).toNatClampNeg) s_464 (fun r_470 s_469 => (r_465 = r_470 → ∀ x_472 : Int32, x_472 = x3 + 6 → K18 s_469 x_472) ∧ (¬ (r_465 = r_470) → (0 : Int32) = 1)))
def w_L_law_1719 (N L : Nat) (xs : Nat → Int32) (K18 : Sx → Int32 → Prop) (s : Sx) (x3 : Int32) : Prop := vp_in (x3 + 1) L ∧ vp_in (x3 + 2) L ∧ vp_in (x3 + 3) L ∧ w_X11_cell N (xs (x3 + 1).toNatClampNeg) (xs (x3 + 2).toNatClampNeg) (xs (x3 + 3).toNatClampNeg) s (fun r_478 s_477 => vp_in (x3 + 1) L ∧ vp_in (x3 + 2) L ∧ vp_in (x3 + 3) L ∧ w_X12_cell N (xs (x3 + 1).toNatClampNeg) (xs (x3 + 2).toNatClampNeg) (xs (x3 + 3).toNatClampNeg) s_477 (fun r_483 s_482 => ((lg_cmp r_478 r_483) = 0 → ∀ x_485 : Int32, x_485 = x3 + 6 → K18 s_482 x_485) ∧ (¬ ((lg_cmp r_478 r_483) = 0) → (0 : Int32) = 1)))
def w_L_law_1763 (N L : Nat) (xs : Nat → Int32) (K18 : Sx → Int32 → Prop) (s : Sx) (x3 : Int32) : Prop := vp_in (x3 + 1) L ∧ w_X11_tell N (xs (x3 + 1).toNatClampNeg) s (fun r_489 s_488 => vp_in (x3 + 1) L ∧ w_X12_tell N (xs (x3 + 1).toNatClampNeg) s_488 (fun r_492 s_491 => (r_489 = r_492 → ∀ x_494 : Int32, x_494 = x3 + 6 → K18 s_491 x_494) ∧ (¬ (r_489 = r_492) → (0 : Int32) = 1)))
def w_L_law_1786 (N L : Nat) (xs : Nat → Int32) (K18 : Sx → Int32 → Prop) (s : Sx) (x3 : Int32) : Prop := vp_in (x3 + 1) L ∧ w_X11_roll N (xs (x3 + 1).toNatClampNeg) s (fun r_498 s_497 => vp_in (x3 + 1) L ∧ w_X12_roll N (xs (x3 + 1).toNatClampNeg) s_497 (fun r_501 s_500 => (r_498 = r_501 → ∀ x_503 : Int32, x_503 = x3 + 6 → K18 s_500 x_503) ∧ (¬ (r_498 = r_501) → (0 : Int32) = 1)))
def w_L_law_1809 (N L : Nat) (xs : Nat → Int32) (K18 : Sx → Int32 → Prop) (s : Sx) (x3 : Int32) : Prop := vp_in (x3 + 1) L ∧ vp_in (x3 + 2) L ∧ w_X11_as N (xs (x3 + 1).toNatClampNeg) (xs (x3 + 2).toNatClampNeg) s (fun r_508 s_507 => vp_in (x3 + 1) L ∧ vp_in (x3 + 2) L ∧ w_X12_as N (xs (x3 + 1).toNatClampNeg) (xs (x3 + 2).toNatClampNeg) s_507 (fun r_512 s_511 => (r_508 = r_512 → ∀ x_514 : Int32, x_514 = x3 + 6 → K18 s_511 x_514) ∧ (¬ (r_508 = r_512) → (0 : Int32) = 1)))
def w_L_law_1842 (N L : Nat) (xs : Nat → Int32) (K18 : Sx → Int32 → Prop) (s : Sx) (x3 : Int32) : Prop := w_X11_trace N s (fun r_517 s_516 => w_X12_trace N s_516 (fun r_519 s_518 => (r_517 = r_519 → ∀ x_521 : Int32, x_521 = x3 + 6 → K18 s_518 x_521) ∧ (¬ (r_517 = r_519) → (0 : Int32) = 1)))
def w_L_law_1855 (N L : Nat) (xs : Nat → Int32) (K18 : Sx → Int32 → Prop) (s : Sx) (x3 : Int32) : Prop := w_X11_fault N s (fun r_524 s_523 => w_X12_fault N s_523 (fun r_526 s_525 => (r_524 = r_526 → ∀ x_528 : Int32, x_528 = x3 + 6 → K18 s_525 x_528) ∧ (¬ (r_524 = r_526) → (0 : Int32) = 1)))
def w_L_law_1868 (N L : Nat) (xs : Nat → Int32) (K18 : Sx → Int32 → Prop) (s : Sx) (x3 : Int32) : Prop := vp_in (x3 + 1) L ∧ w_X11_many N (xs (x3 + 1).toNatClampNeg) s (fun r_532 s_531 => vp_in (x3 + 1) L ∧ w_X12_many N (xs (x3 + 1).toNatClampNeg) s_531 (fun r_535 s_534 => (r_532 = r_535 → ∀ x_537 : Int32, x_537 = x3 + 6 → K18 s_534 x_537) ∧ (¬ (r_532 = r_535) → (0 : Int32) = 1)))
def w_L_law_18 (N L : Nat) (xs : Nat → Int32)  : Nat → Sx → Int32 → Prop
  | 0, _, _ => False
  | n + 1, s, x3 => (((nI L) - 6) < x3 → (1 : Int32) = 1) ∧ (¬ (((nI L) - 6) < x3) → vp_in x3 L ∧ ∀ x_3 : Int32, x_3 = (xs x3.toNatClampNeg) &&& 63 → (x_3 = 0 → w_L_law_232 N L xs (w_L_law_18 N L xs n) s x3) ∧ (¬ (x_3 = 0) → (x_3 = 1 → w_L_law_275 N L xs (w_L_law_18 N L xs n) s x3) ∧ (¬ (x_3 = 1) → (x_3 = 2 → w_L_law_288 N L xs (w_L_law_18 N L xs n) s x3) ∧ (¬ (x_3 = 2) → (x_3 = 3 → w_L_law_351 N L xs (w_L_law_18 N L xs n) s x3) ∧ (¬ (x_3 = 3) → (x_3 = 4 → w_L_law_384 N L xs (w_L_law_18 N L xs n) s x3) ∧ (¬ (x_3 = 4) → (x_3 = 5 → w_L_law_417 N L xs (w_L_law_18 N L xs n) s x3) ∧ (¬ (x_3 = 5) → (x_3 = 6 → w_L_law_440 N L xs (w_L_law_18 N L xs n) s x3) ∧ (¬ (x_3 = 6) → (x_3 = 7 → w_L_law_503 N L xs (w_L_law_18 N L xs n) s x3) ∧ (¬ (x_3 = 7) → (x_3 = 8 → w_L_law_536 N L xs (w_L_law_18 N L xs n) s x3) ∧ (¬ (x_3 = 8) → (x_3 = 9 → w_L_law_569 N L xs (w_L_law_18 N L xs n) s x3) ∧ (¬ (x_3 = 9) → (x_3 = 10 → w_L_law_622 N L xs (w_L_law_18 N L xs n) s x3) ∧ (¬ (x_3 = 10) → (x_3 = 11 → w_L_law_675 N L xs (w_L_law_18 N L xs n) s x3) ∧ (¬ (x_3 = 11) → (x_3 = 12 → w_L_law_708 N L xs (w_L_law_18 N L xs n) s x3) ∧ (¬ (x_3 = 12) → (x_3 = 13 → w_L_law_741 N L xs (w_L_law_18 N L xs n) s x3) ∧ (¬ (x_3 = 13) → (x_3 = 14 → w_L_law_774 N L xs (w_L_law_18 N L xs n) s x3) ∧ (¬ (x_3 = 14) → (x_3 = 15 → w_L_law_817 N L xs (w_L_law_18 N L xs n) s x3) ∧ (¬ (x_3 = 15) → (x_3 = 16 → w_L_law_870 N L xs (w_L_law_18 N L xs n) s x3) ∧ (¬ (x_3 = 16) → (x_3 = 17 → w_L_law_913 N L xs (w_L_law_18 N L xs n) s x3) ∧ (¬ (x_3 = 17) → (x_3 = 18 → w_L_law_956 N L xs (w_L_law_18 N L xs n) s x3) ∧ (¬ (x_3 = 18) → (x_3 = 19 → w_L_law_1019 N L xs (w_L_law_18 N L xs n) s x3) ∧ (¬ (x_3 = 19) → (x_3 = 20 → w_L_law_1032 N L xs (w_L_law_18 N L xs n) s x3) ∧ (¬ (x_3 = 20) → (x_3 = 21 → w_L_law_1065 N L xs (w_L_law_18 N L xs n) s x3) ∧ (¬ (x_3 = 21) → (x_3 = 22 → w_L_law_1108 N L xs (w_L_law_18 N L xs n) s x3) ∧ (¬ (x_3 = 22) → (x_3 = 23 → w_L_law_1142 N L xs (w_L_law_18 N L xs n) s x3) ∧ (¬ (x_3 = 23) → (x_3 = 24 → w_L_law_1165 N L xs (w_L_law_18 N L xs n) s x3) ∧ (¬ (x_3 = 24) → (x_3 = 25 → w_L_law_1218 N L xs (w_L_law_18 N L xs n) s x3) ∧ (¬ (x_3 = 25) → (x_3 = 26 → w_L_law_1251 N L xs (w_L_law_18 N L xs n) s x3) ∧ (¬ (x_3 = 26) → (x_3 = 27 → w_L_law_1285 N L xs (w_L_law_18 N L xs n) s x3) ∧ (¬ (x_3 = 27) → (x_3 = 28 → w_L_law_1338 N L xs (w_L_law_18 N L xs n) s x3) ∧ (¬ (x_3 = 28) → (x_3 = 29 → w_L_law_1371 N L xs (w_L_law_18 N L xs n) s x3) ∧ (¬ (x_3 = 29) → (x_3 = 30 → w_L_law_1394 N L xs (w_L_law_18 N L xs n) s x3) ∧ (¬ (x_3 = 30) → (x_3 = 31 → w_L_law_1417 N L xs (w_L_law_18 N L xs n) s x3) ∧ (¬ (x_3 = 31) → (x_3 = 32 → w_L_law_1486 N L xs (w_L_law_18 N L xs n) s x3) ∧ (¬ (x_3 = 32) → (x_3 = 33 → w_L_law_1510 N L xs (w_L_law_18 N L xs n) s x3) ∧ (¬ (x_3 = 33) → (x_3 = 34 → w_L_law_1564 N L xs (w_L_law_18 N L xs n) s x3) ∧ (¬ (x_3 = 34) → (x_3 = 35 → w_L_law_1577 N L xs (w_L_law_18 N L xs n) s x3) ∧ (¬ (x_3 = 35) → (x_3 = 36 → w_L_law_1610 N L xs (w_L_law_18 N L xs n) s x3) ∧ (¬ (x_3 = 36) → (x_3 = 37 → w_L_law_1653 N L xs (w_L_law_18 N L xs n) s x3) ∧ (¬ (x_3 = 37) → (x_3 = 38 → w_L_law_1676 N L xs (w_L_law_18 N L xs n) s x3) ∧ (¬ (x_3 = 38) → (x_3 = 39 → w_L_law_1719 N L xs (w_L_law_18 N L xs n) s x3) ∧ (¬ (x_3 = 39) → (x_3 = 40 → w_L_law_1763 N L xs (w_L_law_18 N L xs n) s x3) ∧ (¬ (x_3 = 40) → (x_3 = 41 → w_L_law_1786 N L xs (w_L_law_18 N L xs n) s x3) ∧ (¬ (x_3 = 41) → (x_3 = 42 → w_L_law_1809 N L xs (w_L_law_18 N L xs n) s x3) ∧ (¬ (x_3 = 42) → (x_3 = 43 → w_L_law_1842 N L xs (w_L_law_18 N L xs n) s x3) ∧ (¬ (x_3 = 43) → (x_3 = 44 → w_L_law_1855 N L xs (w_L_law_18 N L xs n) s x3) ∧ (¬ (x_3 = 44) → (x_3 = 45 → w_L_law_1868 N L xs (w_L_law_18 N L xs n) s x3) ∧ (¬ (x_3 = 45) → ∀ x_539 : Int32, x_539 = x3 + 6 → w_L_law_18 N L xs n s x_539)))))))))))))))))))))))))))))))))))))))))))))))
set_option maxHeartbeats 4000000 in
theorem b_L_law_232 {X : Kx} {N L b : Nat} {xs : Nat → Int32} {ce sl : Nat} {K18 : Sx → Int32 → Prop}  (hC : Cx X cL_law 4 RL) (hR : X.R = room_1) (hQ : X.Q = lw_Z X.below X.av X.s) (hr : X.meth.sig.returnType = some .boolean) (hX : lw_X X b L xs) (hce : ce + 2 ≤ X.R.cells) (hsl : sl + 19 ≤ X.R.slots) (hK18 : ∀ (a : Ax) (s : Sx) (x3 : Int32), K18 s x3 → wk X a s 4 18 [(0, .ref b), (1, .ref (adr X.G a 0 0)), (2, .ref (adr X.G a 6 0)), (3, .int x3)] [] (ce + 2) (sl + 19)) (a : Ax) (s : Sx) (x3 : Int32) (h : w_L_law_232 N L xs K18 s x3) : wk X a s 4 232 [(0, .ref b), (1, .ref (adr X.G a 0 0)), (2, .ref (adr X.G a 6 0)), (3, .int x3)] [] ce sl := by
  unfold w_L_law_232 at h
  refine k_aload_n hC (pc := 232) dL_law_232 1 rfl ?_
  refine k_aload_n hC (pc := 233) dL_law_233 0 rfl ?_
  refine k_iload_n hC (pc := 234) dL_law_234 3 rfl ?_
  refine k_iconst hC (pc := 235) (v := 1) dL_law_235 ic_1 ?_
  refine k_iadd hC (pc := 236) dL_law_236 ?_
  obtain ⟨c_4, h⟩ := h
  refine k_sld hC (pc := 237) hX c_4 dL_law_237 ?_
  refine k_aload_n hC (pc := 238) dL_law_238 0 rfl ?_
  refine k_iload_n hC (pc := 239) dL_law_239 3 rfl ?_
  refine k_iconst hC (pc := 240) (v := 2) dL_law_240 ic_2 ?_
  refine k_iadd hC (pc := 241) dL_law_241 ?_
  obtain ⟨c_5, h⟩ := h
  refine k_sld hC (pc := 242) hX c_5 dL_law_242 ?_
  refine k_aload_n hC (pc := 243) dL_law_243 0 rfl ?_
  refine k_iload_n hC (pc := 244) dL_law_244 3 rfl ?_
  refine k_iconst hC (pc := 245) (v := 3) dL_law_245 ic_3 ?_
  refine k_iadd hC (pc := 246) dL_law_246 ?_
  obtain ⟨c_6, h⟩ := h
  refine k_sld hC (pc := 247) hX c_6 dL_law_247 ?_
  refine k_ci (rn_V hC (pc := 248) (As := [.int (xs (x3 + 1).toNatClampNeg), .int (xs (x3 + 2).toNatClampNeg), .int (xs (x3 + 3).toNatClampNeg)]) (rest := []) ca_X11_camp ml_RL_13 im_X11_camp se_X11_camp (fx_in f0_0) (ob0_0 _ _ _ _ _) rfl rfl (ct_X11_camp (xs (x3 + 1).toNatClampNeg) (xs (x3 + 2).toNatClampNeg) (xs (x3 + 3).toNatClampNeg) h) (by rw [hR]; exact ⟨rfl, rfl, by decide, by decide⟩) rfl (Nat.le_of_ble_eq_true rfl) dL_law_248 ⟨by omega, by omega⟩) (fun r_8 s_7 h => ?_)
  refine k_aload_n hC (pc := 251) dL_law_251 2 rfl ?_
  refine k_aload_n hC (pc := 252) dL_law_252 0 rfl ?_
  refine k_iload_n hC (pc := 253) dL_law_253 3 rfl ?_
  refine k_iconst hC (pc := 254) (v := 1) dL_law_254 ic_1 ?_
  refine k_iadd hC (pc := 255) dL_law_255 ?_
  obtain ⟨c_9, h⟩ := h
  refine k_sld hC (pc := 256) hX c_9 dL_law_256 ?_
  refine k_aload_n hC (pc := 257) dL_law_257 0 rfl ?_
  refine k_iload_n hC (pc := 258) dL_law_258 3 rfl ?_
  refine k_iconst hC (pc := 259) (v := 2) dL_law_259 ic_2 ?_
  refine k_iadd hC (pc := 260) dL_law_260 ?_
  obtain ⟨c_10, h⟩ := h
  refine k_sld hC (pc := 261) hX c_10 dL_law_261 ?_
  refine k_aload_n hC (pc := 262) dL_law_262 0 rfl ?_
  refine k_iload_n hC (pc := 263) dL_law_263 3 rfl ?_
  refine k_iconst hC (pc := 264) (v := 3) dL_law_264 ic_3 ?_
  refine k_iadd hC (pc := 265) dL_law_265 ?_
  obtain ⟨c_11, h⟩ := h
  refine k_sld hC (pc := 266) hX c_11 dL_law_266 ?_
  refine k_ci (rn_V hC (pc := 267) (As := [.int (xs (x3 + 1).toNatClampNeg), .int (xs (x3 + 2).toNatClampNeg), .int (xs (x3 + 3).toNatClampNeg)]) (rest := [.int r_8]) ca_X12_camp ml_RL_17 im_X12_camp se_X12_camp (fx_in f6_0) (ob6_0 _ _ _ _ _) rfl rfl (ct_X12_camp (xs (x3 + 1).toNatClampNeg) (xs (x3 + 2).toNatClampNeg) (xs (x3 + 3).toNatClampNeg) h) (by rw [hR]; exact ⟨rfl, rfl, by decide, by decide⟩) rfl (Nat.le_of_ble_eq_true rfl) dL_law_267 ⟨by omega, by omega⟩) (fun r_13 s_12 h => ?_)
  refine k_icmp_eq hC (pc := 270) 1891 dL_law_270 (by decide) (fun c_14 => ?_) (fun c_14 => ?_)
  · have h := h.1 c_14
    obtain ⟨x_15, h_x_15⟩ : ∃ z : Int32, z = x3 + 6 := ⟨_, rfl⟩
    have h := h x_15 h_x_15
    refine k_iincw hC (pc := 1891) dL_law_1891 3 rfl ic_6 h_x_15.symm [(3, .int x_15), (0, .ref b), (1, .ref (adr X.G a 0 0)), (2, .ref (adr X.G a 6 0))] (by decide) rfl ?_
    refine k_goto hC (pc := 1894) 18 dL_law_1894 (by decide) ?_
    refine k_sub [(0, .ref b), (1, .ref (adr X.G a 0 0)), (2, .ref (adr X.G a 6 0)), (3, .int x_15)] [1, 2, 3, 0] rfl ?_
    refine k_widen (ce + 2) (sl + 19) (by omega) (by omega) ?_
    exact hK18 _ _ _ h
  · have h := h.2 c_14
    refine k_iconst hC (pc := 273) (v := 0) dL_law_273 ic_0 ?_
    exact k_lawret hC (pc := 274) hR hQ hr hX (by rw [hR] at hce; simp only [room_1] at hce; omega) (by rw [hR] at hsl; simp only [room_1] at hsl; omega) dL_law_274 h
set_option maxHeartbeats 4000000 in
theorem b_L_law_275 {X : Kx} {N L b : Nat} {xs : Nat → Int32} {ce sl : Nat} {K18 : Sx → Int32 → Prop}  (hC : Cx X cL_law 4 RL) (hR : X.R = room_1) (hQ : X.Q = lw_Z X.below X.av X.s) (hr : X.meth.sig.returnType = some .boolean) (hX : lw_X X b L xs) (hce : ce + 2 ≤ X.R.cells) (hsl : sl + 19 ≤ X.R.slots) (hK18 : ∀ (a : Ax) (s : Sx) (x3 : Int32), K18 s x3 → wk X a s 4 18 [(0, .ref b), (1, .ref (adr X.G a 0 0)), (2, .ref (adr X.G a 6 0)), (3, .int x3)] [] (ce + 2) (sl + 19)) (a : Ax) (s : Sx) (x3 : Int32) (h : w_L_law_275 N L xs K18 s x3) : wk X a s 4 275 [(0, .ref b), (1, .ref (adr X.G a 0 0)), (2, .ref (adr X.G a 6 0)), (3, .int x3)] [] ce sl := by
  unfold w_L_law_275 at h
  refine k_aload_n hC (pc := 275) dL_law_275 1 rfl ?_
  refine k_ci (rn_V hC (pc := 276) (As := []) (rest := []) ca_X11_man ml_RL_18 im_X11_man se_X11_man (fx_in f0_0) (ob0_0 _ _ _ _ _) rfl rfl (ct_X11_man h) (by rw [hR]; exact ⟨rfl, rfl, by decide, by decide⟩) rfl (Nat.le_of_ble_eq_true rfl) dL_law_276 ⟨by omega, by omega⟩) (fun r_18 s_17 h => ?_)
  refine k_aload_n hC (pc := 279) dL_law_279 2 rfl ?_
  refine k_ci (rn_V hC (pc := 280) (As := []) (rest := [.int r_18]) ca_X12_man ml_RL_22 im_X12_man se_X12_man (fx_in f6_0) (ob6_0 _ _ _ _ _) rfl rfl (ct_X12_man h) (by rw [hR]; exact ⟨rfl, rfl, by decide, by decide⟩) rfl (Nat.le_of_ble_eq_true rfl) dL_law_280 ⟨by omega, by omega⟩) (fun r_20 s_19 h => ?_)
  refine k_icmp_eq hC (pc := 283) 1891 dL_law_283 (by decide) (fun c_21 => ?_) (fun c_21 => ?_)
  · have h := h.1 c_21
    obtain ⟨x_22, h_x_22⟩ : ∃ z : Int32, z = x3 + 6 := ⟨_, rfl⟩
    have h := h x_22 h_x_22
    refine k_iincw hC (pc := 1891) dL_law_1891 3 rfl ic_6 h_x_22.symm [(3, .int x_22), (0, .ref b), (1, .ref (adr X.G a 0 0)), (2, .ref (adr X.G a 6 0))] (by decide) rfl ?_
    refine k_goto hC (pc := 1894) 18 dL_law_1894 (by decide) ?_
    refine k_sub [(0, .ref b), (1, .ref (adr X.G a 0 0)), (2, .ref (adr X.G a 6 0)), (3, .int x_22)] [1, 2, 3, 0] rfl ?_
    refine k_widen (ce + 2) (sl + 19) (by omega) (by omega) ?_
    exact hK18 _ _ _ h
  · have h := h.2 c_21
    refine k_iconst hC (pc := 286) (v := 0) dL_law_286 ic_0 ?_
    exact k_lawret hC (pc := 287) hR hQ hr hX (by rw [hR] at hce; simp only [room_1] at hce; omega) (by rw [hR] at hsl; simp only [room_1] at hsl; omega) dL_law_287 h
set_option maxHeartbeats 4000000 in
theorem b_L_law_288 {X : Kx} {N L b : Nat} {xs : Nat → Int32} {ce sl : Nat} {K18 : Sx → Int32 → Prop}  (hC : Cx X cL_law 4 RL) (hR : X.R = room_1) (hQ : X.Q = lw_Z X.below X.av X.s) (hr : X.meth.sig.returnType = some .boolean) (hX : lw_X X b L xs) (hce : ce + 2 ≤ X.R.cells) (hsl : sl + 19 ≤ X.R.slots) (hK18 : ∀ (a : Ax) (s : Sx) (x3 : Int32), K18 s x3 → wk X a s 4 18 [(0, .ref b), (1, .ref (adr X.G a 0 0)), (2, .ref (adr X.G a 6 0)), (3, .int x3)] [] (ce + 2) (sl + 19)) (a : Ax) (s : Sx) (x3 : Int32) (h : w_L_law_288 N L xs K18 s x3) : wk X a s 4 288 [(0, .ref b), (1, .ref (adr X.G a 0 0)), (2, .ref (adr X.G a 6 0)), (3, .int x3)] [] ce sl := by
  unfold w_L_law_288 at h
  refine k_aload_n hC (pc := 288) dL_law_288 1 rfl ?_
  refine k_aload_n hC (pc := 289) dL_law_289 0 rfl ?_
  refine k_iload_n hC (pc := 290) dL_law_290 3 rfl ?_
  refine k_iconst hC (pc := 291) (v := 1) dL_law_291 ic_1 ?_
  refine k_iadd hC (pc := 292) dL_law_292 ?_
  obtain ⟨c_24, h⟩ := h
  refine k_sld hC (pc := 293) hX c_24 dL_law_293 ?_
  refine k_aload_n hC (pc := 294) dL_law_294 0 rfl ?_
  refine k_iload_n hC (pc := 295) dL_law_295 3 rfl ?_
  refine k_iconst hC (pc := 296) (v := 2) dL_law_296 ic_2 ?_
  refine k_iadd hC (pc := 297) dL_law_297 ?_
  obtain ⟨c_25, h⟩ := h
  refine k_sld hC (pc := 298) hX c_25 dL_law_298 ?_
  refine k_aload_n hC (pc := 299) dL_law_299 0 rfl ?_
  refine k_iload_n hC (pc := 300) dL_law_300 3 rfl ?_
  refine k_iconst hC (pc := 301) (v := 3) dL_law_301 ic_3 ?_
  refine k_iadd hC (pc := 302) dL_law_302 ?_
  obtain ⟨c_26, h⟩ := h
  refine k_sld hC (pc := 303) hX c_26 dL_law_303 ?_
  refine k_aload_n hC (pc := 304) dL_law_304 0 rfl ?_
  refine k_iload_n hC (pc := 305) dL_law_305 3 rfl ?_
  refine k_iconst hC (pc := 306) (v := 4) dL_law_306 ic_4 ?_
  refine k_iadd hC (pc := 307) dL_law_307 ?_
  obtain ⟨c_27, h⟩ := h
  refine k_sld hC (pc := 308) hX c_27 dL_law_308 ?_
  refine k_aload_n hC (pc := 309) dL_law_309 0 rfl ?_
  refine k_iload_n hC (pc := 310) dL_law_310 3 rfl ?_
  refine k_iconst hC (pc := 311) (v := 5) dL_law_311 ic_5 ?_
  refine k_iadd hC (pc := 312) dL_law_312 ?_
  obtain ⟨c_28, h⟩ := h
  refine k_sld hC (pc := 313) hX c_28 dL_law_313 ?_
  refine k_ca (rn_V hC (pc := 314) (As := [.int (xs (x3 + 1).toNatClampNeg), .int (xs (x3 + 2).toNatClampNeg), .int (xs (x3 + 3).toNatClampNeg), .int (xs (x3 + 4).toNatClampNeg), .int (xs (x3 + 5).toNatClampNeg)]) (rest := []) ca_X11_post ml_RL_23 im_X11_post se_X11_post (fx_in f0_0) (ob0_0 _ _ _ _ _) rfl rfl (ct_X11_post (xs (x3 + 1).toNatClampNeg) (xs (x3 + 2).toNatClampNeg) (xs (x3 + 3).toNatClampNeg) (xs (x3 + 4).toNatClampNeg) (xs (x3 + 5).toNatClampNeg) h) (by rw [hR]; exact ⟨rfl, rfl, by decide, by decide⟩) rfl (Nat.le_of_ble_eq_true rfl) dL_law_314 ⟨by omega, by omega⟩) (fun r_30 a_31 s_29 h => ?_)
  refine k_aload_n hC (pc := 317) dL_law_317 2 rfl ?_
  refine k_aload_n hC (pc := 318) dL_law_318 0 rfl ?_
  refine k_iload_n hC (pc := 319) dL_law_319 3 rfl ?_
  refine k_iconst hC (pc := 320) (v := 1) dL_law_320 ic_1 ?_
  refine k_iadd hC (pc := 321) dL_law_321 ?_
  obtain ⟨c_32, h⟩ := h
  refine k_sld hC (pc := 322) hX c_32 dL_law_322 ?_
  refine k_aload_n hC (pc := 323) dL_law_323 0 rfl ?_
  refine k_iload_n hC (pc := 324) dL_law_324 3 rfl ?_
  refine k_iconst hC (pc := 325) (v := 2) dL_law_325 ic_2 ?_
  refine k_iadd hC (pc := 326) dL_law_326 ?_
  obtain ⟨c_33, h⟩ := h
  refine k_sld hC (pc := 327) hX c_33 dL_law_327 ?_
  refine k_aload_n hC (pc := 328) dL_law_328 0 rfl ?_
  refine k_iload_n hC (pc := 329) dL_law_329 3 rfl ?_
  refine k_iconst hC (pc := 330) (v := 3) dL_law_330 ic_3 ?_
  refine k_iadd hC (pc := 331) dL_law_331 ?_
  obtain ⟨c_34, h⟩ := h
  refine k_sld hC (pc := 332) hX c_34 dL_law_332 ?_
  refine k_aload_n hC (pc := 333) dL_law_333 0 rfl ?_
  refine k_iload_n hC (pc := 334) dL_law_334 3 rfl ?_
  refine k_iconst hC (pc := 335) (v := 4) dL_law_335 ic_4 ?_
  refine k_iadd hC (pc := 336) dL_law_336 ?_
  obtain ⟨c_35, h⟩ := h
  refine k_sld hC (pc := 337) hX c_35 dL_law_337 ?_
  refine k_aload_n hC (pc := 338) dL_law_338 0 rfl ?_
  refine k_iload_n hC (pc := 339) dL_law_339 3 rfl ?_
  refine k_iconst hC (pc := 340) (v := 5) dL_law_340 ic_5 ?_
  refine k_iadd hC (pc := 341) dL_law_341 ?_
  obtain ⟨c_36, h⟩ := h
  refine k_sld hC (pc := 342) hX c_36 dL_law_342 ?_
  refine k_ci (rn_V hC (pc := 343) (As := [.int (xs (x3 + 1).toNatClampNeg), .int (xs (x3 + 2).toNatClampNeg), .int (xs (x3 + 3).toNatClampNeg), .int (xs (x3 + 4).toNatClampNeg), .int (xs (x3 + 5).toNatClampNeg)]) (rest := [.int r_30]) ca_X12_post ml_RL_27 im_X12_post se_X12_post (fx_in f6_0) (ob6_0 _ _ _ _ _) rfl rfl (ct_X12_post (xs (x3 + 1).toNatClampNeg) (xs (x3 + 2).toNatClampNeg) (xs (x3 + 3).toNatClampNeg) (xs (x3 + 4).toNatClampNeg) (xs (x3 + 5).toNatClampNeg) h) (by rw [hR]; exact ⟨rfl, rfl, by decide, by decide⟩) rfl (Nat.le_of_ble_eq_true rfl) dL_law_343 ⟨by omega, by omega⟩) (fun r_38 s_37 h => ?_)
  refine k_icmp_eq hC (pc := 346) 1891 dL_law_346 (by decide) (fun c_39 => ?_) (fun c_39 => ?_)
  · have h := h.1 c_39
    obtain ⟨x_40, h_x_40⟩ : ∃ z : Int32, z = x3 + 6 := ⟨_, rfl⟩
    have h := h x_40 h_x_40
    refine k_iincw hC (pc := 1891) dL_law_1891 3 rfl ic_6 h_x_40.symm [(3, .int x_40), (0, .ref b), (1, .ref (adr X.G a 0 0)), (2, .ref (adr X.G a 6 0))] (by decide) rfl ?_
    refine k_goto hC (pc := 1894) 18 dL_law_1894 (by decide) ?_
    refine k_sub [(0, .ref b), (1, .ref (adr X.G a 0 0)), (2, .ref (adr X.G a 6 0)), (3, .int x_40)] [1, 2, 3, 0] rfl ?_
    refine k_widen (ce + 2) (sl + 19) (by omega) (by omega) ?_
    exact hK18 _ _ _ h
  · have h := h.2 c_39
    refine k_iconst hC (pc := 349) (v := 0) dL_law_349 ic_0 ?_
    exact k_lawret hC (pc := 350) hR hQ hr hX (by rw [hR] at hce; simp only [room_1] at hce; omega) (by rw [hR] at hsl; simp only [room_1] at hsl; omega) dL_law_350 h
set_option maxHeartbeats 4000000 in
theorem b_L_law_351 {X : Kx} {N L b : Nat} {xs : Nat → Int32} {ce sl : Nat} {K18 : Sx → Int32 → Prop}  (hC : Cx X cL_law 4 RL) (hR : X.R = room_1) (hQ : X.Q = lw_Z X.below X.av X.s) (hr : X.meth.sig.returnType = some .boolean) (hX : lw_X X b L xs) (hce : ce + 2 ≤ X.R.cells) (hsl : sl + 19 ≤ X.R.slots) (hK18 : ∀ (a : Ax) (s : Sx) (x3 : Int32), K18 s x3 → wk X a s 4 18 [(0, .ref b), (1, .ref (adr X.G a 0 0)), (2, .ref (adr X.G a 6 0)), (3, .int x3)] [] (ce + 2) (sl + 19)) (a : Ax) (s : Sx) (x3 : Int32) (h : w_L_law_351 N L xs K18 s x3) : wk X a s 4 351 [(0, .ref b), (1, .ref (adr X.G a 0 0)), (2, .ref (adr X.G a 6 0)), (3, .int x3)] [] ce sl := by
  unfold w_L_law_351 at h
  refine k_aload_n hC (pc := 351) dL_law_351 1 rfl ?_
  refine k_aload_n hC (pc := 352) dL_law_352 0 rfl ?_
  refine k_iload_n hC (pc := 353) dL_law_353 3 rfl ?_
  refine k_iconst hC (pc := 354) (v := 1) dL_law_354 ic_1 ?_
  refine k_iadd hC (pc := 355) dL_law_355 ?_
  obtain ⟨c_42, h⟩ := h
  refine k_sld hC (pc := 356) hX c_42 dL_law_356 ?_
  refine k_aload_n hC (pc := 357) dL_law_357 0 rfl ?_
  refine k_iload_n hC (pc := 358) dL_law_358 3 rfl ?_
  refine k_iconst hC (pc := 359) (v := 2) dL_law_359 ic_2 ?_
  refine k_iadd hC (pc := 360) dL_law_360 ?_
  obtain ⟨c_43, h⟩ := h
  refine k_sld hC (pc := 361) hX c_43 dL_law_361 ?_
  refine k_ci (rn_V hC (pc := 362) (As := [.int (xs (x3 + 1).toNatClampNeg), .int (xs (x3 + 2).toNatClampNeg)]) (rest := []) ca_X11_day ml_RL_28 im_X11_day se_X11_day (fx_in f0_0) (ob0_0 _ _ _ _ _) rfl rfl (ct_X11_day (xs (x3 + 1).toNatClampNeg) (xs (x3 + 2).toNatClampNeg) h) (by rw [hR]; exact ⟨rfl, rfl, by decide, by decide⟩) rfl (Nat.le_of_ble_eq_true rfl) dL_law_362 ⟨by omega, by omega⟩) (fun r_45 s_44 h => ?_)
  refine k_aload_n hC (pc := 365) dL_law_365 2 rfl ?_
  refine k_aload_n hC (pc := 366) dL_law_366 0 rfl ?_
  refine k_iload_n hC (pc := 367) dL_law_367 3 rfl ?_
  refine k_iconst hC (pc := 368) (v := 1) dL_law_368 ic_1 ?_
  refine k_iadd hC (pc := 369) dL_law_369 ?_
  obtain ⟨c_46, h⟩ := h
  refine k_sld hC (pc := 370) hX c_46 dL_law_370 ?_
  refine k_aload_n hC (pc := 371) dL_law_371 0 rfl ?_
  refine k_iload_n hC (pc := 372) dL_law_372 3 rfl ?_
  refine k_iconst hC (pc := 373) (v := 2) dL_law_373 ic_2 ?_
  refine k_iadd hC (pc := 374) dL_law_374 ?_
  obtain ⟨c_47, h⟩ := h
  refine k_sld hC (pc := 375) hX c_47 dL_law_375 ?_
  refine k_ci (rn_V hC (pc := 376) (As := [.int (xs (x3 + 1).toNatClampNeg), .int (xs (x3 + 2).toNatClampNeg)]) (rest := [.int r_45]) ca_X12_day ml_RL_32 im_X12_day se_X12_day (fx_in f6_0) (ob6_0 _ _ _ _ _) rfl rfl (ct_X12_day (xs (x3 + 1).toNatClampNeg) (xs (x3 + 2).toNatClampNeg) h) (by rw [hR]; exact ⟨rfl, rfl, by decide, by decide⟩) rfl (Nat.le_of_ble_eq_true rfl) dL_law_376 ⟨by omega, by omega⟩) (fun r_49 s_48 h => ?_)
  refine k_icmp_eq hC (pc := 379) 1891 dL_law_379 (by decide) (fun c_50 => ?_) (fun c_50 => ?_)
  · have h := h.1 c_50
    obtain ⟨x_51, h_x_51⟩ : ∃ z : Int32, z = x3 + 6 := ⟨_, rfl⟩
    have h := h x_51 h_x_51
    refine k_iincw hC (pc := 1891) dL_law_1891 3 rfl ic_6 h_x_51.symm [(3, .int x_51), (0, .ref b), (1, .ref (adr X.G a 0 0)), (2, .ref (adr X.G a 6 0))] (by decide) rfl ?_
    refine k_goto hC (pc := 1894) 18 dL_law_1894 (by decide) ?_
    refine k_sub [(0, .ref b), (1, .ref (adr X.G a 0 0)), (2, .ref (adr X.G a 6 0)), (3, .int x_51)] [1, 2, 3, 0] rfl ?_
    refine k_widen (ce + 2) (sl + 19) (by omega) (by omega) ?_
    exact hK18 _ _ _ h
  · have h := h.2 c_50
    refine k_iconst hC (pc := 382) (v := 0) dL_law_382 ic_0 ?_
    exact k_lawret hC (pc := 383) hR hQ hr hX (by rw [hR] at hce; simp only [room_1] at hce; omega) (by rw [hR] at hsl; simp only [room_1] at hsl; omega) dL_law_383 h
set_option maxHeartbeats 4000000 in
theorem b_L_law_384 {X : Kx} {N L b : Nat} {xs : Nat → Int32} {ce sl : Nat} {K18 : Sx → Int32 → Prop}  (hC : Cx X cL_law 4 RL) (hR : X.R = room_1) (hQ : X.Q = lw_Z X.below X.av X.s) (hr : X.meth.sig.returnType = some .boolean) (hX : lw_X X b L xs) (hce : ce + 2 ≤ X.R.cells) (hsl : sl + 19 ≤ X.R.slots) (hK18 : ∀ (a : Ax) (s : Sx) (x3 : Int32), K18 s x3 → wk X a s 4 18 [(0, .ref b), (1, .ref (adr X.G a 0 0)), (2, .ref (adr X.G a 6 0)), (3, .int x3)] [] (ce + 2) (sl + 19)) (a : Ax) (s : Sx) (x3 : Int32) (h : w_L_law_384 N L xs K18 s x3) : wk X a s 4 384 [(0, .ref b), (1, .ref (adr X.G a 0 0)), (2, .ref (adr X.G a 6 0)), (3, .int x3)] [] ce sl := by
  unfold w_L_law_384 at h
  refine k_aload_n hC (pc := 384) dL_law_384 1 rfl ?_
  refine k_aload_n hC (pc := 385) dL_law_385 0 rfl ?_
  refine k_iload_n hC (pc := 386) dL_law_386 3 rfl ?_
  refine k_iconst hC (pc := 387) (v := 1) dL_law_387 ic_1 ?_
  refine k_iadd hC (pc := 388) dL_law_388 ?_
  obtain ⟨c_53, h⟩ := h
  refine k_sld hC (pc := 389) hX c_53 dL_law_389 ?_
  refine k_aload_n hC (pc := 390) dL_law_390 0 rfl ?_
  refine k_iload_n hC (pc := 391) dL_law_391 3 rfl ?_
  refine k_iconst hC (pc := 392) (v := 2) dL_law_392 ic_2 ?_
  refine k_iadd hC (pc := 393) dL_law_393 ?_
  obtain ⟨c_54, h⟩ := h
  refine k_sld hC (pc := 394) hX c_54 dL_law_394 ?_
  refine k_ci (rn_V hC (pc := 395) (As := [.int (xs (x3 + 1).toNatClampNeg), .int (xs (x3 + 2).toNatClampNeg)]) (rest := []) ca_X11_beds ml_RL_33 im_X11_beds se_X11_beds (fx_in f0_0) (ob0_0 _ _ _ _ _) rfl rfl (ct_X11_beds (xs (x3 + 1).toNatClampNeg) (xs (x3 + 2).toNatClampNeg) h) (by rw [hR]; exact ⟨rfl, rfl, by decide, by decide⟩) rfl (Nat.le_of_ble_eq_true rfl) dL_law_395 ⟨by omega, by omega⟩) (fun r_56 s_55 h => ?_)
  refine k_aload_n hC (pc := 398) dL_law_398 2 rfl ?_
  refine k_aload_n hC (pc := 399) dL_law_399 0 rfl ?_
  refine k_iload_n hC (pc := 400) dL_law_400 3 rfl ?_
  refine k_iconst hC (pc := 401) (v := 1) dL_law_401 ic_1 ?_
  refine k_iadd hC (pc := 402) dL_law_402 ?_
  obtain ⟨c_57, h⟩ := h
  refine k_sld hC (pc := 403) hX c_57 dL_law_403 ?_
  refine k_aload_n hC (pc := 404) dL_law_404 0 rfl ?_
  refine k_iload_n hC (pc := 405) dL_law_405 3 rfl ?_
  refine k_iconst hC (pc := 406) (v := 2) dL_law_406 ic_2 ?_
  refine k_iadd hC (pc := 407) dL_law_407 ?_
  obtain ⟨c_58, h⟩ := h
  refine k_sld hC (pc := 408) hX c_58 dL_law_408 ?_
  refine k_ci (rn_V hC (pc := 409) (As := [.int (xs (x3 + 1).toNatClampNeg), .int (xs (x3 + 2).toNatClampNeg)]) (rest := [.int r_56]) ca_X12_beds ml_RL_36 im_X12_beds se_X12_beds (fx_in f6_0) (ob6_0 _ _ _ _ _) rfl rfl (ct_X12_beds (xs (x3 + 1).toNatClampNeg) (xs (x3 + 2).toNatClampNeg) h) (by rw [hR]; exact ⟨rfl, rfl, by decide, by decide⟩) rfl (Nat.le_of_ble_eq_true rfl) dL_law_409 ⟨by omega, by omega⟩) (fun r_60 s_59 h => ?_)
  refine k_icmp_eq hC (pc := 412) 1891 dL_law_412 (by decide) (fun c_61 => ?_) (fun c_61 => ?_)
  · have h := h.1 c_61
    obtain ⟨x_62, h_x_62⟩ : ∃ z : Int32, z = x3 + 6 := ⟨_, rfl⟩
    have h := h x_62 h_x_62
    refine k_iincw hC (pc := 1891) dL_law_1891 3 rfl ic_6 h_x_62.symm [(3, .int x_62), (0, .ref b), (1, .ref (adr X.G a 0 0)), (2, .ref (adr X.G a 6 0))] (by decide) rfl ?_
    refine k_goto hC (pc := 1894) 18 dL_law_1894 (by decide) ?_
    refine k_sub [(0, .ref b), (1, .ref (adr X.G a 0 0)), (2, .ref (adr X.G a 6 0)), (3, .int x_62)] [1, 2, 3, 0] rfl ?_
    refine k_widen (ce + 2) (sl + 19) (by omega) (by omega) ?_
    exact hK18 _ _ _ h
  · have h := h.2 c_61
    refine k_iconst hC (pc := 415) (v := 0) dL_law_415 ic_0 ?_
    exact k_lawret hC (pc := 416) hR hQ hr hX (by rw [hR] at hce; simp only [room_1] at hce; omega) (by rw [hR] at hsl; simp only [room_1] at hsl; omega) dL_law_416 h
set_option maxHeartbeats 4000000 in
theorem b_L_law_417 {X : Kx} {N L b : Nat} {xs : Nat → Int32} {ce sl : Nat} {K18 : Sx → Int32 → Prop}  (hC : Cx X cL_law 4 RL) (hR : X.R = room_1) (hQ : X.Q = lw_Z X.below X.av X.s) (hr : X.meth.sig.returnType = some .boolean) (hX : lw_X X b L xs) (hce : ce + 2 ≤ X.R.cells) (hsl : sl + 19 ≤ X.R.slots) (hK18 : ∀ (a : Ax) (s : Sx) (x3 : Int32), K18 s x3 → wk X a s 4 18 [(0, .ref b), (1, .ref (adr X.G a 0 0)), (2, .ref (adr X.G a 6 0)), (3, .int x3)] [] (ce + 2) (sl + 19)) (a : Ax) (s : Sx) (x3 : Int32) (h : w_L_law_417 N L xs K18 s x3) : wk X a s 4 417 [(0, .ref b), (1, .ref (adr X.G a 0 0)), (2, .ref (adr X.G a 6 0)), (3, .int x3)] [] ce sl := by
  unfold w_L_law_417 at h
  refine k_aload_n hC (pc := 417) dL_law_417 1 rfl ?_
  refine k_aload_n hC (pc := 418) dL_law_418 0 rfl ?_
  refine k_iload_n hC (pc := 419) dL_law_419 3 rfl ?_
  refine k_iconst hC (pc := 420) (v := 1) dL_law_420 ic_1 ?_
  refine k_iadd hC (pc := 421) dL_law_421 ?_
  obtain ⟨c_64, h⟩ := h
  refine k_sld hC (pc := 422) hX c_64 dL_law_422 ?_
  refine k_ci (rn_V hC (pc := 423) (As := [.int (xs (x3 + 1).toNatClampNeg)]) (rest := []) ca_X11_over ml_RL_37 im_X11_over se_X11_over (fx_in f0_0) (ob0_0 _ _ _ _ _) rfl rfl (ct_X11_over (xs (x3 + 1).toNatClampNeg) h) (by rw [hR]; exact ⟨rfl, rfl, by decide, by decide⟩) rfl (Nat.le_of_ble_eq_true rfl) dL_law_423 ⟨by omega, by omega⟩) (fun r_66 s_65 h => ?_)
  refine k_aload_n hC (pc := 426) dL_law_426 2 rfl ?_
  refine k_aload_n hC (pc := 427) dL_law_427 0 rfl ?_
  refine k_iload_n hC (pc := 428) dL_law_428 3 rfl ?_
  refine k_iconst hC (pc := 429) (v := 1) dL_law_429 ic_1 ?_
  refine k_iadd hC (pc := 430) dL_law_430 ?_
  obtain ⟨c_67, h⟩ := h
  refine k_sld hC (pc := 431) hX c_67 dL_law_431 ?_
  refine k_ci (rn_V hC (pc := 432) (As := [.int (xs (x3 + 1).toNatClampNeg)]) (rest := [.int r_66]) ca_X12_over ml_RL_41 im_X12_over se_X12_over (fx_in f6_0) (ob6_0 _ _ _ _ _) rfl rfl (ct_X12_over (xs (x3 + 1).toNatClampNeg) h) (by rw [hR]; exact ⟨rfl, rfl, by decide, by decide⟩) rfl (Nat.le_of_ble_eq_true rfl) dL_law_432 ⟨by omega, by omega⟩) (fun r_69 s_68 h => ?_)
  refine k_icmp_eq hC (pc := 435) 1891 dL_law_435 (by decide) (fun c_70 => ?_) (fun c_70 => ?_)
  · have h := h.1 c_70
    obtain ⟨x_71, h_x_71⟩ : ∃ z : Int32, z = x3 + 6 := ⟨_, rfl⟩
    have h := h x_71 h_x_71
    refine k_iincw hC (pc := 1891) dL_law_1891 3 rfl ic_6 h_x_71.symm [(3, .int x_71), (0, .ref b), (1, .ref (adr X.G a 0 0)), (2, .ref (adr X.G a 6 0))] (by decide) rfl ?_
    refine k_goto hC (pc := 1894) 18 dL_law_1894 (by decide) ?_
    refine k_sub [(0, .ref b), (1, .ref (adr X.G a 0 0)), (2, .ref (adr X.G a 6 0)), (3, .int x_71)] [1, 2, 3, 0] rfl ?_
    refine k_widen (ce + 2) (sl + 19) (by omega) (by omega) ?_
    exact hK18 _ _ _ h
  · have h := h.2 c_70
    refine k_iconst hC (pc := 438) (v := 0) dL_law_438 ic_0 ?_
    exact k_lawret hC (pc := 439) hR hQ hr hX (by rw [hR] at hce; simp only [room_1] at hce; omega) (by rw [hR] at hsl; simp only [room_1] at hsl; omega) dL_law_439 h
set_option maxHeartbeats 4000000 in
theorem b_L_law_440 {X : Kx} {N L b : Nat} {xs : Nat → Int32} {ce sl : Nat} {K18 : Sx → Int32 → Prop}  (hC : Cx X cL_law 4 RL) (hR : X.R = room_1) (hQ : X.Q = lw_Z X.below X.av X.s) (hr : X.meth.sig.returnType = some .boolean) (hX : lw_X X b L xs) (hce : ce + 2 ≤ X.R.cells) (hsl : sl + 19 ≤ X.R.slots) (hK18 : ∀ (a : Ax) (s : Sx) (x3 : Int32), K18 s x3 → wk X a s 4 18 [(0, .ref b), (1, .ref (adr X.G a 0 0)), (2, .ref (adr X.G a 6 0)), (3, .int x3)] [] (ce + 2) (sl + 19)) (a : Ax) (s : Sx) (x3 : Int32) (h : w_L_law_440 N L xs K18 s x3) : wk X a s 4 440 [(0, .ref b), (1, .ref (adr X.G a 0 0)), (2, .ref (adr X.G a 6 0)), (3, .int x3)] [] ce sl := by
  unfold w_L_law_440 at h
  refine k_aload_n hC (pc := 440) dL_law_440 1 rfl ?_
  refine k_aload_n hC (pc := 441) dL_law_441 0 rfl ?_
  refine k_iload_n hC (pc := 442) dL_law_442 3 rfl ?_
  refine k_iconst hC (pc := 443) (v := 1) dL_law_443 ic_1 ?_
  refine k_iadd hC (pc := 444) dL_law_444 ?_
  obtain ⟨c_73, h⟩ := h
  refine k_sld hC (pc := 445) hX c_73 dL_law_445 ?_
  refine k_aload_n hC (pc := 446) dL_law_446 0 rfl ?_
  refine k_iload_n hC (pc := 447) dL_law_447 3 rfl ?_
  refine k_iconst hC (pc := 448) (v := 2) dL_law_448 ic_2 ?_
  refine k_iadd hC (pc := 449) dL_law_449 ?_
  obtain ⟨c_74, h⟩ := h
  refine k_sld hC (pc := 450) hX c_74 dL_law_450 ?_
  refine k_aload_n hC (pc := 451) dL_law_451 0 rfl ?_
  refine k_iload_n hC (pc := 452) dL_law_452 3 rfl ?_
  refine k_iconst hC (pc := 453) (v := 3) dL_law_453 ic_3 ?_
  refine k_iadd hC (pc := 454) dL_law_454 ?_
  obtain ⟨c_75, h⟩ := h
  refine k_sld hC (pc := 455) hX c_75 dL_law_455 ?_
  refine k_aload_n hC (pc := 456) dL_law_456 0 rfl ?_
  refine k_iload_n hC (pc := 457) dL_law_457 3 rfl ?_
  refine k_iconst hC (pc := 458) (v := 4) dL_law_458 ic_4 ?_
  refine k_iadd hC (pc := 459) dL_law_459 ?_
  obtain ⟨c_76, h⟩ := h
  refine k_sld hC (pc := 460) hX c_76 dL_law_460 ?_
  refine k_aload_n hC (pc := 461) dL_law_461 0 rfl ?_
  refine k_iload_n hC (pc := 462) dL_law_462 3 rfl ?_
  refine k_iconst hC (pc := 463) (v := 5) dL_law_463 ic_5 ?_
  refine k_iadd hC (pc := 464) dL_law_464 ?_
  obtain ⟨c_77, h⟩ := h
  refine k_sld hC (pc := 465) hX c_77 dL_law_465 ?_
  refine k_ca (rn_V hC (pc := 466) (As := [.int (xs (x3 + 1).toNatClampNeg), .int (xs (x3 + 2).toNatClampNeg), .int (xs (x3 + 3).toNatClampNeg), .int (xs (x3 + 4).toNatClampNeg), .int (xs (x3 + 5).toNatClampNeg)]) (rest := []) ca_X11_order ml_RL_42 im_X11_order se_X11_order (fx_in f0_0) (ob0_0 _ _ _ _ _) rfl rfl (ct_X11_order (xs (x3 + 1).toNatClampNeg) (xs (x3 + 2).toNatClampNeg) (xs (x3 + 3).toNatClampNeg) (xs (x3 + 4).toNatClampNeg) (xs (x3 + 5).toNatClampNeg) h) (by rw [hR]; exact ⟨rfl, rfl, by decide, by decide⟩) rfl (Nat.le_of_ble_eq_true rfl) dL_law_466 ⟨by omega, by omega⟩) (fun r_79 a_80 s_78 h => ?_)
  refine k_aload_n hC (pc := 469) dL_law_469 2 rfl ?_
  refine k_aload_n hC (pc := 470) dL_law_470 0 rfl ?_
  refine k_iload_n hC (pc := 471) dL_law_471 3 rfl ?_
  refine k_iconst hC (pc := 472) (v := 1) dL_law_472 ic_1 ?_
  refine k_iadd hC (pc := 473) dL_law_473 ?_
  obtain ⟨c_81, h⟩ := h
  refine k_sld hC (pc := 474) hX c_81 dL_law_474 ?_
  refine k_aload_n hC (pc := 475) dL_law_475 0 rfl ?_
  refine k_iload_n hC (pc := 476) dL_law_476 3 rfl ?_
  refine k_iconst hC (pc := 477) (v := 2) dL_law_477 ic_2 ?_
  refine k_iadd hC (pc := 478) dL_law_478 ?_
  obtain ⟨c_82, h⟩ := h
  refine k_sld hC (pc := 479) hX c_82 dL_law_479 ?_
  refine k_aload_n hC (pc := 480) dL_law_480 0 rfl ?_
  refine k_iload_n hC (pc := 481) dL_law_481 3 rfl ?_
  refine k_iconst hC (pc := 482) (v := 3) dL_law_482 ic_3 ?_
  refine k_iadd hC (pc := 483) dL_law_483 ?_
  obtain ⟨c_83, h⟩ := h
  refine k_sld hC (pc := 484) hX c_83 dL_law_484 ?_
  refine k_aload_n hC (pc := 485) dL_law_485 0 rfl ?_
  refine k_iload_n hC (pc := 486) dL_law_486 3 rfl ?_
  refine k_iconst hC (pc := 487) (v := 4) dL_law_487 ic_4 ?_
  refine k_iadd hC (pc := 488) dL_law_488 ?_
  obtain ⟨c_84, h⟩ := h
  refine k_sld hC (pc := 489) hX c_84 dL_law_489 ?_
  refine k_aload_n hC (pc := 490) dL_law_490 0 rfl ?_
  refine k_iload_n hC (pc := 491) dL_law_491 3 rfl ?_
  refine k_iconst hC (pc := 492) (v := 5) dL_law_492 ic_5 ?_
  refine k_iadd hC (pc := 493) dL_law_493 ?_
  obtain ⟨c_85, h⟩ := h
  refine k_sld hC (pc := 494) hX c_85 dL_law_494 ?_
  refine k_ci (rn_V hC (pc := 495) (As := [.int (xs (x3 + 1).toNatClampNeg), .int (xs (x3 + 2).toNatClampNeg), .int (xs (x3 + 3).toNatClampNeg), .int (xs (x3 + 4).toNatClampNeg), .int (xs (x3 + 5).toNatClampNeg)]) (rest := [.int r_79]) ca_X12_order ml_RL_45 im_X12_order se_X12_order (fx_in f6_0) (ob6_0 _ _ _ _ _) rfl rfl (ct_X12_order (xs (x3 + 1).toNatClampNeg) (xs (x3 + 2).toNatClampNeg) (xs (x3 + 3).toNatClampNeg) (xs (x3 + 4).toNatClampNeg) (xs (x3 + 5).toNatClampNeg) h) (by rw [hR]; exact ⟨rfl, rfl, by decide, by decide⟩) rfl (Nat.le_of_ble_eq_true rfl) dL_law_495 ⟨by omega, by omega⟩) (fun r_87 s_86 h => ?_)
  refine k_icmp_eq hC (pc := 498) 1891 dL_law_498 (by decide) (fun c_88 => ?_) (fun c_88 => ?_)
  · have h := h.1 c_88
    obtain ⟨x_89, h_x_89⟩ : ∃ z : Int32, z = x3 + 6 := ⟨_, rfl⟩
    have h := h x_89 h_x_89
    refine k_iincw hC (pc := 1891) dL_law_1891 3 rfl ic_6 h_x_89.symm [(3, .int x_89), (0, .ref b), (1, .ref (adr X.G a 0 0)), (2, .ref (adr X.G a 6 0))] (by decide) rfl ?_
    refine k_goto hC (pc := 1894) 18 dL_law_1894 (by decide) ?_
    refine k_sub [(0, .ref b), (1, .ref (adr X.G a 0 0)), (2, .ref (adr X.G a 6 0)), (3, .int x_89)] [1, 2, 3, 0] rfl ?_
    refine k_widen (ce + 2) (sl + 19) (by omega) (by omega) ?_
    exact hK18 _ _ _ h
  · have h := h.2 c_88
    refine k_iconst hC (pc := 501) (v := 0) dL_law_501 ic_0 ?_
    exact k_lawret hC (pc := 502) hR hQ hr hX (by rw [hR] at hce; simp only [room_1] at hce; omega) (by rw [hR] at hsl; simp only [room_1] at hsl; omega) dL_law_502 h
set_option maxHeartbeats 4000000 in
theorem b_L_law_503 {X : Kx} {N L b : Nat} {xs : Nat → Int32} {ce sl : Nat} {K18 : Sx → Int32 → Prop}  (hC : Cx X cL_law 4 RL) (hR : X.R = room_1) (hQ : X.Q = lw_Z X.below X.av X.s) (hr : X.meth.sig.returnType = some .boolean) (hX : lw_X X b L xs) (hce : ce + 2 ≤ X.R.cells) (hsl : sl + 19 ≤ X.R.slots) (hK18 : ∀ (a : Ax) (s : Sx) (x3 : Int32), K18 s x3 → wk X a s 4 18 [(0, .ref b), (1, .ref (adr X.G a 0 0)), (2, .ref (adr X.G a 6 0)), (3, .int x3)] [] (ce + 2) (sl + 19)) (a : Ax) (s : Sx) (x3 : Int32) (h : w_L_law_503 N L xs K18 s x3) : wk X a s 4 503 [(0, .ref b), (1, .ref (adr X.G a 0 0)), (2, .ref (adr X.G a 6 0)), (3, .int x3)] [] ce sl := by
  unfold w_L_law_503 at h
  refine k_aload_n hC (pc := 503) dL_law_503 1 rfl ?_
  refine k_aload_n hC (pc := 504) dL_law_504 0 rfl ?_
  refine k_iload_n hC (pc := 505) dL_law_505 3 rfl ?_
  refine k_iconst hC (pc := 506) (v := 1) dL_law_506 ic_1 ?_
  refine k_iadd hC (pc := 507) dL_law_507 ?_
  obtain ⟨c_91, h⟩ := h
  refine k_sld hC (pc := 508) hX c_91 dL_law_508 ?_
  refine k_aload_n hC (pc := 509) dL_law_509 0 rfl ?_
  refine k_iload_n hC (pc := 510) dL_law_510 3 rfl ?_
  refine k_iconst hC (pc := 511) (v := 2) dL_law_511 ic_2 ?_
  refine k_iadd hC (pc := 512) dL_law_512 ?_
  obtain ⟨c_92, h⟩ := h
  refine k_sld hC (pc := 513) hX c_92 dL_law_513 ?_
  refine k_ci (rn_V hC (pc := 514) (As := [.int (xs (x3 + 1).toNatClampNeg), .int (xs (x3 + 2).toNatClampNeg)]) (rest := []) ca_X11_ofOrder ml_RL_46 im_X11_ofOrder se_X11_ofOrder (fx_in f0_0) (ob0_0 _ _ _ _ _) rfl rfl (ct_X11_ofOrder (xs (x3 + 1).toNatClampNeg) (xs (x3 + 2).toNatClampNeg) h) (by rw [hR]; exact ⟨rfl, rfl, by decide, by decide⟩) rfl (Nat.le_of_ble_eq_true rfl) dL_law_514 ⟨by omega, by omega⟩) (fun r_94 s_93 h => ?_)
  refine k_aload_n hC (pc := 517) dL_law_517 2 rfl ?_
  refine k_aload_n hC (pc := 518) dL_law_518 0 rfl ?_
  refine k_iload_n hC (pc := 519) dL_law_519 3 rfl ?_
  refine k_iconst hC (pc := 520) (v := 1) dL_law_520 ic_1 ?_
  refine k_iadd hC (pc := 521) dL_law_521 ?_
  obtain ⟨c_95, h⟩ := h
  refine k_sld hC (pc := 522) hX c_95 dL_law_522 ?_
  refine k_aload_n hC (pc := 523) dL_law_523 0 rfl ?_
  refine k_iload_n hC (pc := 524) dL_law_524 3 rfl ?_
  refine k_iconst hC (pc := 525) (v := 2) dL_law_525 ic_2 ?_
  refine k_iadd hC (pc := 526) dL_law_526 ?_
  obtain ⟨c_96, h⟩ := h
  refine k_sld hC (pc := 527) hX c_96 dL_law_527 ?_
  refine k_ci (rn_V hC (pc := 528) (As := [.int (xs (x3 + 1).toNatClampNeg), .int (xs (x3 + 2).toNatClampNeg)]) (rest := [.int r_94]) ca_X12_ofOrder ml_RL_49 im_X12_ofOrder se_X12_ofOrder (fx_in f6_0) (ob6_0 _ _ _ _ _) rfl rfl (ct_X12_ofOrder (xs (x3 + 1).toNatClampNeg) (xs (x3 + 2).toNatClampNeg) h) (by rw [hR]; exact ⟨rfl, rfl, by decide, by decide⟩) rfl (Nat.le_of_ble_eq_true rfl) dL_law_528 ⟨by omega, by omega⟩) (fun r_98 s_97 h => ?_)
  refine k_icmp_eq hC (pc := 531) 1891 dL_law_531 (by decide) (fun c_99 => ?_) (fun c_99 => ?_)
  · have h := h.1 c_99
    obtain ⟨x_100, h_x_100⟩ : ∃ z : Int32, z = x3 + 6 := ⟨_, rfl⟩
    have h := h x_100 h_x_100
    refine k_iincw hC (pc := 1891) dL_law_1891 3 rfl ic_6 h_x_100.symm [(3, .int x_100), (0, .ref b), (1, .ref (adr X.G a 0 0)), (2, .ref (adr X.G a 6 0))] (by decide) rfl ?_
    refine k_goto hC (pc := 1894) 18 dL_law_1894 (by decide) ?_
    refine k_sub [(0, .ref b), (1, .ref (adr X.G a 0 0)), (2, .ref (adr X.G a 6 0)), (3, .int x_100)] [1, 2, 3, 0] rfl ?_
    refine k_widen (ce + 2) (sl + 19) (by omega) (by omega) ?_
    exact hK18 _ _ _ h
  · have h := h.2 c_99
    refine k_iconst hC (pc := 534) (v := 0) dL_law_534 ic_0 ?_
    exact k_lawret hC (pc := 535) hR hQ hr hX (by rw [hR] at hce; simp only [room_1] at hce; omega) (by rw [hR] at hsl; simp only [room_1] at hsl; omega) dL_law_535 h
set_option maxHeartbeats 4000000 in
theorem b_L_law_536 {X : Kx} {N L b : Nat} {xs : Nat → Int32} {ce sl : Nat} {K18 : Sx → Int32 → Prop}  (hC : Cx X cL_law 4 RL) (hR : X.R = room_1) (hQ : X.Q = lw_Z X.below X.av X.s) (hr : X.meth.sig.returnType = some .boolean) (hX : lw_X X b L xs) (hce : ce + 2 ≤ X.R.cells) (hsl : sl + 19 ≤ X.R.slots) (hK18 : ∀ (a : Ax) (s : Sx) (x3 : Int32), K18 s x3 → wk X a s 4 18 [(0, .ref b), (1, .ref (adr X.G a 0 0)), (2, .ref (adr X.G a 6 0)), (3, .int x3)] [] (ce + 2) (sl + 19)) (a : Ax) (s : Sx) (x3 : Int32) (h : w_L_law_536 N L xs K18 s x3) : wk X a s 4 536 [(0, .ref b), (1, .ref (adr X.G a 0 0)), (2, .ref (adr X.G a 6 0)), (3, .int x3)] [] ce sl := by
  unfold w_L_law_536 at h
  refine k_aload_n hC (pc := 536) dL_law_536 1 rfl ?_
  refine k_aload_n hC (pc := 537) dL_law_537 0 rfl ?_
  refine k_iload_n hC (pc := 538) dL_law_538 3 rfl ?_
  refine k_iconst hC (pc := 539) (v := 1) dL_law_539 ic_1 ?_
  refine k_iadd hC (pc := 540) dL_law_540 ?_
  obtain ⟨c_102, h⟩ := h
  refine k_sld hC (pc := 541) hX c_102 dL_law_541 ?_
  refine k_aload_n hC (pc := 542) dL_law_542 0 rfl ?_
  refine k_iload_n hC (pc := 543) dL_law_543 3 rfl ?_
  refine k_iconst hC (pc := 544) (v := 2) dL_law_544 ic_2 ?_
  refine k_iadd hC (pc := 545) dL_law_545 ?_
  obtain ⟨c_103, h⟩ := h
  refine k_sld hC (pc := 546) hX c_103 dL_law_546 ?_
  refine k_ci (rn_V hC (pc := 547) (As := [.int (xs (x3 + 1).toNatClampNeg), .int (xs (x3 + 2).toNatClampNeg)]) (rest := []) ca_X11_delay ml_RL_50 im_X11_delay se_X11_delay (fx_in f0_0) (ob0_0 _ _ _ _ _) rfl rfl (ct_X11_delay (xs (x3 + 1).toNatClampNeg) (xs (x3 + 2).toNatClampNeg) h) (by rw [hR]; exact ⟨rfl, rfl, by decide, by decide⟩) rfl (Nat.le_of_ble_eq_true rfl) dL_law_547 ⟨by omega, by omega⟩) (fun r_105 s_104 h => ?_)
  refine k_aload_n hC (pc := 550) dL_law_550 2 rfl ?_
  refine k_aload_n hC (pc := 551) dL_law_551 0 rfl ?_
  refine k_iload_n hC (pc := 552) dL_law_552 3 rfl ?_
  refine k_iconst hC (pc := 553) (v := 1) dL_law_553 ic_1 ?_
  refine k_iadd hC (pc := 554) dL_law_554 ?_
  obtain ⟨c_106, h⟩ := h
  refine k_sld hC (pc := 555) hX c_106 dL_law_555 ?_
  refine k_aload_n hC (pc := 556) dL_law_556 0 rfl ?_
  refine k_iload_n hC (pc := 557) dL_law_557 3 rfl ?_
  refine k_iconst hC (pc := 558) (v := 2) dL_law_558 ic_2 ?_
  refine k_iadd hC (pc := 559) dL_law_559 ?_
  obtain ⟨c_107, h⟩ := h
  refine k_sld hC (pc := 560) hX c_107 dL_law_560 ?_
  refine k_ci (rn_V hC (pc := 561) (As := [.int (xs (x3 + 1).toNatClampNeg), .int (xs (x3 + 2).toNatClampNeg)]) (rest := [.int r_105]) ca_X12_delay ml_RL_53 im_X12_delay se_X12_delay (fx_in f6_0) (ob6_0 _ _ _ _ _) rfl rfl (ct_X12_delay (xs (x3 + 1).toNatClampNeg) (xs (x3 + 2).toNatClampNeg) h) (by rw [hR]; exact ⟨rfl, rfl, by decide, by decide⟩) rfl (Nat.le_of_ble_eq_true rfl) dL_law_561 ⟨by omega, by omega⟩) (fun r_109 s_108 h => ?_)
  refine k_icmp_eq hC (pc := 564) 1891 dL_law_564 (by decide) (fun c_110 => ?_) (fun c_110 => ?_)
  · have h := h.1 c_110
    obtain ⟨x_111, h_x_111⟩ : ∃ z : Int32, z = x3 + 6 := ⟨_, rfl⟩
    have h := h x_111 h_x_111
    refine k_iincw hC (pc := 1891) dL_law_1891 3 rfl ic_6 h_x_111.symm [(3, .int x_111), (0, .ref b), (1, .ref (adr X.G a 0 0)), (2, .ref (adr X.G a 6 0))] (by decide) rfl ?_
    refine k_goto hC (pc := 1894) 18 dL_law_1894 (by decide) ?_
    refine k_sub [(0, .ref b), (1, .ref (adr X.G a 0 0)), (2, .ref (adr X.G a 6 0)), (3, .int x_111)] [1, 2, 3, 0] rfl ?_
    refine k_widen (ce + 2) (sl + 19) (by omega) (by omega) ?_
    exact hK18 _ _ _ h
  · have h := h.2 c_110
    refine k_iconst hC (pc := 567) (v := 0) dL_law_567 ic_0 ?_
    exact k_lawret hC (pc := 568) hR hQ hr hX (by rw [hR] at hce; simp only [room_1] at hce; omega) (by rw [hR] at hsl; simp only [room_1] at hsl; omega) dL_law_568 h
set_option maxHeartbeats 4000000 in
theorem b_L_law_569 {X : Kx} {N L b : Nat} {xs : Nat → Int32} {ce sl : Nat} {K18 : Sx → Int32 → Prop}  (hC : Cx X cL_law 4 RL) (hR : X.R = room_1) (hQ : X.Q = lw_Z X.below X.av X.s) (hr : X.meth.sig.returnType = some .boolean) (hX : lw_X X b L xs) (hce : ce + 2 ≤ X.R.cells) (hsl : sl + 19 ≤ X.R.slots) (hK18 : ∀ (a : Ax) (s : Sx) (x3 : Int32), K18 s x3 → wk X a s 4 18 [(0, .ref b), (1, .ref (adr X.G a 0 0)), (2, .ref (adr X.G a 6 0)), (3, .int x3)] [] (ce + 2) (sl + 19)) (a : Ax) (s : Sx) (x3 : Int32) (h : w_L_law_569 N L xs K18 s x3) : wk X a s 4 569 [(0, .ref b), (1, .ref (adr X.G a 0 0)), (2, .ref (adr X.G a 6 0)), (3, .int x3)] [] ce sl := by
  unfold w_L_law_569 at h
  refine k_aload_n hC (pc := 569) dL_law_569 1 rfl ?_
  refine k_aload_n hC (pc := 570) dL_law_570 0 rfl ?_
  refine k_iload_n hC (pc := 571) dL_law_571 3 rfl ?_
  refine k_iconst hC (pc := 572) (v := 1) dL_law_572 ic_1 ?_
  refine k_iadd hC (pc := 573) dL_law_573 ?_
  obtain ⟨c_113, h⟩ := h
  refine k_sld hC (pc := 574) hX c_113 dL_law_574 ?_
  refine k_aload_n hC (pc := 575) dL_law_575 0 rfl ?_
  refine k_iload_n hC (pc := 576) dL_law_576 3 rfl ?_
  refine k_iconst hC (pc := 577) (v := 2) dL_law_577 ic_2 ?_
  refine k_iadd hC (pc := 578) dL_law_578 ?_
  obtain ⟨c_114, h⟩ := h
  refine k_sld hC (pc := 579) hX c_114 dL_law_579 ?_
  refine k_aload_n hC (pc := 580) dL_law_580 0 rfl ?_
  refine k_iload_n hC (pc := 581) dL_law_581 3 rfl ?_
  refine k_iconst hC (pc := 582) (v := 3) dL_law_582 ic_3 ?_
  refine k_iadd hC (pc := 583) dL_law_583 ?_
  obtain ⟨c_115, h⟩ := h
  refine k_sld hC (pc := 584) hX c_115 dL_law_584 ?_
  refine k_aload_n hC (pc := 585) dL_law_585 0 rfl ?_
  refine k_iload_n hC (pc := 586) dL_law_586 3 rfl ?_
  refine k_iconst hC (pc := 587) (v := 4) dL_law_587 ic_4 ?_
  refine k_iadd hC (pc := 588) dL_law_588 ?_
  obtain ⟨c_116, h⟩ := h
  refine k_sld hC (pc := 589) hX c_116 dL_law_589 ?_
  refine k_ci (rn_V hC (pc := 590) (As := [.int (xs (x3 + 1).toNatClampNeg), .int (xs (x3 + 2).toNatClampNeg), .int (xs (x3 + 3).toNatClampNeg), .int (xs (x3 + 4).toNatClampNeg)]) (rest := []) ca_X11_word ml_RL_54 im_X11_word se_X11_word (fx_in f0_0) (ob0_0 _ _ _ _ _) rfl rfl (ct_X11_word (xs (x3 + 1).toNatClampNeg) (xs (x3 + 2).toNatClampNeg) (xs (x3 + 3).toNatClampNeg) (xs (x3 + 4).toNatClampNeg) h) (by rw [hR]; exact ⟨rfl, rfl, by decide, by decide⟩) rfl (Nat.le_of_ble_eq_true rfl) dL_law_590 ⟨by omega, by omega⟩) (fun r_118 s_117 h => ?_)
  refine k_aload_n hC (pc := 593) dL_law_593 2 rfl ?_
  refine k_aload_n hC (pc := 594) dL_law_594 0 rfl ?_
  refine k_iload_n hC (pc := 595) dL_law_595 3 rfl ?_
  refine k_iconst hC (pc := 596) (v := 1) dL_law_596 ic_1 ?_
  refine k_iadd hC (pc := 597) dL_law_597 ?_
  obtain ⟨c_119, h⟩ := h
  refine k_sld hC (pc := 598) hX c_119 dL_law_598 ?_
  refine k_aload_n hC (pc := 599) dL_law_599 0 rfl ?_
  refine k_iload_n hC (pc := 600) dL_law_600 3 rfl ?_
  refine k_iconst hC (pc := 601) (v := 2) dL_law_601 ic_2 ?_
  refine k_iadd hC (pc := 602) dL_law_602 ?_
  obtain ⟨c_120, h⟩ := h
  refine k_sld hC (pc := 603) hX c_120 dL_law_603 ?_
  refine k_aload_n hC (pc := 604) dL_law_604 0 rfl ?_
  refine k_iload_n hC (pc := 605) dL_law_605 3 rfl ?_
  refine k_iconst hC (pc := 606) (v := 3) dL_law_606 ic_3 ?_
  refine k_iadd hC (pc := 607) dL_law_607 ?_
  obtain ⟨c_121, h⟩ := h
  refine k_sld hC (pc := 608) hX c_121 dL_law_608 ?_
  refine k_aload_n hC (pc := 609) dL_law_609 0 rfl ?_
  refine k_iload_n hC (pc := 610) dL_law_610 3 rfl ?_
  refine k_iconst hC (pc := 611) (v := 4) dL_law_611 ic_4 ?_
  refine k_iadd hC (pc := 612) dL_law_612 ?_
  obtain ⟨c_122, h⟩ := h
  refine k_sld hC (pc := 613) hX c_122 dL_law_613 ?_
  refine k_ci (rn_V hC (pc := 614) (As := [.int (xs (x3 + 1).toNatClampNeg), .int (xs (x3 + 2).toNatClampNeg), .int (xs (x3 + 3).toNatClampNeg), .int (xs (x3 + 4).toNatClampNeg)]) (rest := [.int r_118]) ca_X12_word ml_RL_58 im_X12_word se_X12_word (fx_in f6_0) (ob6_0 _ _ _ _ _) rfl rfl (ct_X12_word (xs (x3 + 1).toNatClampNeg) (xs (x3 + 2).toNatClampNeg) (xs (x3 + 3).toNatClampNeg) (xs (x3 + 4).toNatClampNeg) h) (by rw [hR]; exact ⟨rfl, rfl, by decide, by decide⟩) rfl (Nat.le_of_ble_eq_true rfl) dL_law_614 ⟨by omega, by omega⟩) (fun r_124 s_123 h => ?_)
  refine k_icmp_eq hC (pc := 617) 1891 dL_law_617 (by decide) (fun c_125 => ?_) (fun c_125 => ?_)
  · have h := h.1 c_125
    obtain ⟨x_126, h_x_126⟩ : ∃ z : Int32, z = x3 + 6 := ⟨_, rfl⟩
    have h := h x_126 h_x_126
    refine k_iincw hC (pc := 1891) dL_law_1891 3 rfl ic_6 h_x_126.symm [(3, .int x_126), (0, .ref b), (1, .ref (adr X.G a 0 0)), (2, .ref (adr X.G a 6 0))] (by decide) rfl ?_
    refine k_goto hC (pc := 1894) 18 dL_law_1894 (by decide) ?_
    refine k_sub [(0, .ref b), (1, .ref (adr X.G a 0 0)), (2, .ref (adr X.G a 6 0)), (3, .int x_126)] [1, 2, 3, 0] rfl ?_
    refine k_widen (ce + 2) (sl + 19) (by omega) (by omega) ?_
    exact hK18 _ _ _ h
  · have h := h.2 c_125
    refine k_iconst hC (pc := 620) (v := 0) dL_law_620 ic_0 ?_
    exact k_lawret hC (pc := 621) hR hQ hr hX (by rw [hR] at hce; simp only [room_1] at hce; omega) (by rw [hR] at hsl; simp only [room_1] at hsl; omega) dL_law_621 h
set_option maxHeartbeats 4000000 in
theorem b_L_law_622 {X : Kx} {N L b : Nat} {xs : Nat → Int32} {ce sl : Nat} {K18 : Sx → Int32 → Prop}  (hC : Cx X cL_law 4 RL) (hR : X.R = room_1) (hQ : X.Q = lw_Z X.below X.av X.s) (hr : X.meth.sig.returnType = some .boolean) (hX : lw_X X b L xs) (hce : ce + 2 ≤ X.R.cells) (hsl : sl + 19 ≤ X.R.slots) (hK18 : ∀ (a : Ax) (s : Sx) (x3 : Int32), K18 s x3 → wk X a s 4 18 [(0, .ref b), (1, .ref (adr X.G a 0 0)), (2, .ref (adr X.G a 6 0)), (3, .int x3)] [] (ce + 2) (sl + 19)) (a : Ax) (s : Sx) (x3 : Int32) (h : w_L_law_622 N L xs K18 s x3) : wk X a s 4 622 [(0, .ref b), (1, .ref (adr X.G a 0 0)), (2, .ref (adr X.G a 6 0)), (3, .int x3)] [] ce sl := by
  unfold w_L_law_622 at h
  refine k_aload_n hC (pc := 622) dL_law_622 1 rfl ?_
  refine k_aload_n hC (pc := 623) dL_law_623 0 rfl ?_
  refine k_iload_n hC (pc := 624) dL_law_624 3 rfl ?_
  refine k_iconst hC (pc := 625) (v := 1) dL_law_625 ic_1 ?_
  refine k_iadd hC (pc := 626) dL_law_626 ?_
  obtain ⟨c_128, h⟩ := h
  refine k_sld hC (pc := 627) hX c_128 dL_law_627 ?_
  refine k_aload_n hC (pc := 628) dL_law_628 0 rfl ?_
  refine k_iload_n hC (pc := 629) dL_law_629 3 rfl ?_
  refine k_iconst hC (pc := 630) (v := 2) dL_law_630 ic_2 ?_
  refine k_iadd hC (pc := 631) dL_law_631 ?_
  obtain ⟨c_129, h⟩ := h
  refine k_sld hC (pc := 632) hX c_129 dL_law_632 ?_
  refine k_aload_n hC (pc := 633) dL_law_633 0 rfl ?_
  refine k_iload_n hC (pc := 634) dL_law_634 3 rfl ?_
  refine k_iconst hC (pc := 635) (v := 3) dL_law_635 ic_3 ?_
  refine k_iadd hC (pc := 636) dL_law_636 ?_
  obtain ⟨c_130, h⟩ := h
  refine k_sld hC (pc := 637) hX c_130 dL_law_637 ?_
  refine k_aload_n hC (pc := 638) dL_law_638 0 rfl ?_
  refine k_iload_n hC (pc := 639) dL_law_639 3 rfl ?_
  refine k_iconst hC (pc := 640) (v := 4) dL_law_640 ic_4 ?_
  refine k_iadd hC (pc := 641) dL_law_641 ?_
  obtain ⟨c_131, h⟩ := h
  refine k_sld hC (pc := 642) hX c_131 dL_law_642 ?_
  refine k_ci (rn_V hC (pc := 643) (As := [.int (xs (x3 + 1).toNatClampNeg), .int (xs (x3 + 2).toNatClampNeg), .int (xs (x3 + 3).toNatClampNeg), .int (xs (x3 + 4).toNatClampNeg)]) (rest := []) ca_X11_why ml_RL_59 im_X11_why se_X11_why (fx_in f0_0) (ob0_0 _ _ _ _ _) rfl rfl (ct_X11_why (xs (x3 + 1).toNatClampNeg) (xs (x3 + 2).toNatClampNeg) (xs (x3 + 3).toNatClampNeg) (xs (x3 + 4).toNatClampNeg) h) (by rw [hR]; exact ⟨rfl, rfl, by decide, by decide⟩) rfl (Nat.le_of_ble_eq_true rfl) dL_law_643 ⟨by omega, by omega⟩) (fun r_133 s_132 h => ?_)
  refine k_aload_n hC (pc := 646) dL_law_646 2 rfl ?_
  refine k_aload_n hC (pc := 647) dL_law_647 0 rfl ?_
  refine k_iload_n hC (pc := 648) dL_law_648 3 rfl ?_
  refine k_iconst hC (pc := 649) (v := 1) dL_law_649 ic_1 ?_
  refine k_iadd hC (pc := 650) dL_law_650 ?_
  obtain ⟨c_134, h⟩ := h
  refine k_sld hC (pc := 651) hX c_134 dL_law_651 ?_
  refine k_aload_n hC (pc := 652) dL_law_652 0 rfl ?_
  refine k_iload_n hC (pc := 653) dL_law_653 3 rfl ?_
  refine k_iconst hC (pc := 654) (v := 2) dL_law_654 ic_2 ?_
  refine k_iadd hC (pc := 655) dL_law_655 ?_
  obtain ⟨c_135, h⟩ := h
  refine k_sld hC (pc := 656) hX c_135 dL_law_656 ?_
  refine k_aload_n hC (pc := 657) dL_law_657 0 rfl ?_
  refine k_iload_n hC (pc := 658) dL_law_658 3 rfl ?_
  refine k_iconst hC (pc := 659) (v := 3) dL_law_659 ic_3 ?_
  refine k_iadd hC (pc := 660) dL_law_660 ?_
  obtain ⟨c_136, h⟩ := h
  refine k_sld hC (pc := 661) hX c_136 dL_law_661 ?_
  refine k_aload_n hC (pc := 662) dL_law_662 0 rfl ?_
  refine k_iload_n hC (pc := 663) dL_law_663 3 rfl ?_
  refine k_iconst hC (pc := 664) (v := 4) dL_law_664 ic_4 ?_
  refine k_iadd hC (pc := 665) dL_law_665 ?_
  obtain ⟨c_137, h⟩ := h
  refine k_sld hC (pc := 666) hX c_137 dL_law_666 ?_
  refine k_ci (rn_V hC (pc := 667) (As := [.int (xs (x3 + 1).toNatClampNeg), .int (xs (x3 + 2).toNatClampNeg), .int (xs (x3 + 3).toNatClampNeg), .int (xs (x3 + 4).toNatClampNeg)]) (rest := [.int r_133]) ca_X12_why ml_RL_62 im_X12_why se_X12_why (fx_in f6_0) (ob6_0 _ _ _ _ _) rfl rfl (ct_X12_why (xs (x3 + 1).toNatClampNeg) (xs (x3 + 2).toNatClampNeg) (xs (x3 + 3).toNatClampNeg) (xs (x3 + 4).toNatClampNeg) h) (by rw [hR]; exact ⟨rfl, rfl, by decide, by decide⟩) rfl (Nat.le_of_ble_eq_true rfl) dL_law_667 ⟨by omega, by omega⟩) (fun r_139 s_138 h => ?_)
  refine k_icmp_eq hC (pc := 670) 1891 dL_law_670 (by decide) (fun c_140 => ?_) (fun c_140 => ?_)
  · have h := h.1 c_140
    obtain ⟨x_141, h_x_141⟩ : ∃ z : Int32, z = x3 + 6 := ⟨_, rfl⟩
    have h := h x_141 h_x_141
    refine k_iincw hC (pc := 1891) dL_law_1891 3 rfl ic_6 h_x_141.symm [(3, .int x_141), (0, .ref b), (1, .ref (adr X.G a 0 0)), (2, .ref (adr X.G a 6 0))] (by decide) rfl ?_
    refine k_goto hC (pc := 1894) 18 dL_law_1894 (by decide) ?_
    refine k_sub [(0, .ref b), (1, .ref (adr X.G a 0 0)), (2, .ref (adr X.G a 6 0)), (3, .int x_141)] [1, 2, 3, 0] rfl ?_
    refine k_widen (ce + 2) (sl + 19) (by omega) (by omega) ?_
    exact hK18 _ _ _ h
  · have h := h.2 c_140
    refine k_iconst hC (pc := 673) (v := 0) dL_law_673 ic_0 ?_
    exact k_lawret hC (pc := 674) hR hQ hr hX (by rw [hR] at hce; simp only [room_1] at hce; omega) (by rw [hR] at hsl; simp only [room_1] at hsl; omega) dL_law_674 h
set_option maxHeartbeats 4000000 in
theorem b_L_law_675 {X : Kx} {N L b : Nat} {xs : Nat → Int32} {ce sl : Nat} {K18 : Sx → Int32 → Prop}  (hC : Cx X cL_law 4 RL) (hR : X.R = room_1) (hQ : X.Q = lw_Z X.below X.av X.s) (hr : X.meth.sig.returnType = some .boolean) (hX : lw_X X b L xs) (hce : ce + 2 ≤ X.R.cells) (hsl : sl + 19 ≤ X.R.slots) (hK18 : ∀ (a : Ax) (s : Sx) (x3 : Int32), K18 s x3 → wk X a s 4 18 [(0, .ref b), (1, .ref (adr X.G a 0 0)), (2, .ref (adr X.G a 6 0)), (3, .int x3)] [] (ce + 2) (sl + 19)) (a : Ax) (s : Sx) (x3 : Int32) (h : w_L_law_675 N L xs K18 s x3) : wk X a s 4 675 [(0, .ref b), (1, .ref (adr X.G a 0 0)), (2, .ref (adr X.G a 6 0)), (3, .int x3)] [] ce sl := by
  unfold w_L_law_675 at h
  refine k_aload_n hC (pc := 675) dL_law_675 1 rfl ?_
  refine k_aload_n hC (pc := 676) dL_law_676 0 rfl ?_
  refine k_iload_n hC (pc := 677) dL_law_677 3 rfl ?_
  refine k_iconst hC (pc := 678) (v := 1) dL_law_678 ic_1 ?_
  refine k_iadd hC (pc := 679) dL_law_679 ?_
  obtain ⟨c_143, h⟩ := h
  refine k_sld hC (pc := 680) hX c_143 dL_law_680 ?_
  refine k_aload_n hC (pc := 681) dL_law_681 0 rfl ?_
  refine k_iload_n hC (pc := 682) dL_law_682 3 rfl ?_
  refine k_iconst hC (pc := 683) (v := 2) dL_law_683 ic_2 ?_
  refine k_iadd hC (pc := 684) dL_law_684 ?_
  obtain ⟨c_144, h⟩ := h
  refine k_sld hC (pc := 685) hX c_144 dL_law_685 ?_
  refine k_ci (rn_V hC (pc := 686) (As := [.int (xs (x3 + 1).toNatClampNeg), .int (xs (x3 + 2).toNatClampNeg)]) (rest := []) ca_X11_quarrel ml_RL_63 im_X11_quarrel se_X11_quarrel (fx_in f0_0) (ob0_0 _ _ _ _ _) rfl rfl (ct_X11_quarrel (xs (x3 + 1).toNatClampNeg) (xs (x3 + 2).toNatClampNeg) h) (by rw [hR]; exact ⟨rfl, rfl, by decide, by decide⟩) rfl (Nat.le_of_ble_eq_true rfl) dL_law_686 ⟨by omega, by omega⟩) (fun r_146 s_145 h => ?_)
  refine k_aload_n hC (pc := 689) dL_law_689 2 rfl ?_
  refine k_aload_n hC (pc := 690) dL_law_690 0 rfl ?_
  refine k_iload_n hC (pc := 691) dL_law_691 3 rfl ?_
  refine k_iconst hC (pc := 692) (v := 1) dL_law_692 ic_1 ?_
  refine k_iadd hC (pc := 693) dL_law_693 ?_
  obtain ⟨c_147, h⟩ := h
  refine k_sld hC (pc := 694) hX c_147 dL_law_694 ?_
  refine k_aload_n hC (pc := 695) dL_law_695 0 rfl ?_
  refine k_iload_n hC (pc := 696) dL_law_696 3 rfl ?_
  refine k_iconst hC (pc := 697) (v := 2) dL_law_697 ic_2 ?_
  refine k_iadd hC (pc := 698) dL_law_698 ?_
  obtain ⟨c_148, h⟩ := h
  refine k_sld hC (pc := 699) hX c_148 dL_law_699 ?_
  refine k_ci (rn_V hC (pc := 700) (As := [.int (xs (x3 + 1).toNatClampNeg), .int (xs (x3 + 2).toNatClampNeg)]) (rest := [.int r_146]) ca_X12_quarrel ml_RL_66 im_X12_quarrel se_X12_quarrel (fx_in f6_0) (ob6_0 _ _ _ _ _) rfl rfl (ct_X12_quarrel (xs (x3 + 1).toNatClampNeg) (xs (x3 + 2).toNatClampNeg) h) (by rw [hR]; exact ⟨rfl, rfl, by decide, by decide⟩) rfl (Nat.le_of_ble_eq_true rfl) dL_law_700 ⟨by omega, by omega⟩) (fun r_150 s_149 h => ?_)
  refine k_icmp_eq hC (pc := 703) 1891 dL_law_703 (by decide) (fun c_151 => ?_) (fun c_151 => ?_)
  · have h := h.1 c_151
    obtain ⟨x_152, h_x_152⟩ : ∃ z : Int32, z = x3 + 6 := ⟨_, rfl⟩
    have h := h x_152 h_x_152
    refine k_iincw hC (pc := 1891) dL_law_1891 3 rfl ic_6 h_x_152.symm [(3, .int x_152), (0, .ref b), (1, .ref (adr X.G a 0 0)), (2, .ref (adr X.G a 6 0))] (by decide) rfl ?_
    refine k_goto hC (pc := 1894) 18 dL_law_1894 (by decide) ?_
    refine k_sub [(0, .ref b), (1, .ref (adr X.G a 0 0)), (2, .ref (adr X.G a 6 0)), (3, .int x_152)] [1, 2, 3, 0] rfl ?_
    refine k_widen (ce + 2) (sl + 19) (by omega) (by omega) ?_
    exact hK18 _ _ _ h
  · have h := h.2 c_151
    refine k_iconst hC (pc := 706) (v := 0) dL_law_706 ic_0 ?_
    exact k_lawret hC (pc := 707) hR hQ hr hX (by rw [hR] at hce; simp only [room_1] at hce; omega) (by rw [hR] at hsl; simp only [room_1] at hsl; omega) dL_law_707 h
set_option maxHeartbeats 4000000 in
theorem b_L_law_708 {X : Kx} {N L b : Nat} {xs : Nat → Int32} {ce sl : Nat} {K18 : Sx → Int32 → Prop}  (hC : Cx X cL_law 4 RL) (hR : X.R = room_1) (hQ : X.Q = lw_Z X.below X.av X.s) (hr : X.meth.sig.returnType = some .boolean) (hX : lw_X X b L xs) (hce : ce + 2 ≤ X.R.cells) (hsl : sl + 19 ≤ X.R.slots) (hK18 : ∀ (a : Ax) (s : Sx) (x3 : Int32), K18 s x3 → wk X a s 4 18 [(0, .ref b), (1, .ref (adr X.G a 0 0)), (2, .ref (adr X.G a 6 0)), (3, .int x3)] [] (ce + 2) (sl + 19)) (a : Ax) (s : Sx) (x3 : Int32) (h : w_L_law_708 N L xs K18 s x3) : wk X a s 4 708 [(0, .ref b), (1, .ref (adr X.G a 0 0)), (2, .ref (adr X.G a 6 0)), (3, .int x3)] [] ce sl := by
  unfold w_L_law_708 at h
  refine k_aload_n hC (pc := 708) dL_law_708 1 rfl ?_
  refine k_aload_n hC (pc := 709) dL_law_709 0 rfl ?_
  refine k_iload_n hC (pc := 710) dL_law_710 3 rfl ?_
  refine k_iconst hC (pc := 711) (v := 1) dL_law_711 ic_1 ?_
  refine k_iadd hC (pc := 712) dL_law_712 ?_
  obtain ⟨c_154, h⟩ := h
  refine k_sld hC (pc := 713) hX c_154 dL_law_713 ?_
  refine k_aload_n hC (pc := 714) dL_law_714 0 rfl ?_
  refine k_iload_n hC (pc := 715) dL_law_715 3 rfl ?_
  refine k_iconst hC (pc := 716) (v := 2) dL_law_716 ic_2 ?_
  refine k_iadd hC (pc := 717) dL_law_717 ?_
  obtain ⟨c_155, h⟩ := h
  refine k_sld hC (pc := 718) hX c_155 dL_law_718 ?_
  refine k_ci (rn_V hC (pc := 719) (As := [.int (xs (x3 + 1).toNatClampNeg), .int (xs (x3 + 2).toNatClampNeg)]) (rest := []) ca_X11_rate ml_RL_67 im_X11_rate se_X11_rate (fx_in f0_0) (ob0_0 _ _ _ _ _) rfl rfl (ct_X11_rate (xs (x3 + 1).toNatClampNeg) (xs (x3 + 2).toNatClampNeg) h) (by rw [hR]; exact ⟨rfl, rfl, by decide, by decide⟩) rfl (Nat.le_of_ble_eq_true rfl) dL_law_719 ⟨by omega, by omega⟩) (fun r_157 s_156 h => ?_)
  refine k_aload_n hC (pc := 722) dL_law_722 2 rfl ?_
  refine k_aload_n hC (pc := 723) dL_law_723 0 rfl ?_
  refine k_iload_n hC (pc := 724) dL_law_724 3 rfl ?_
  refine k_iconst hC (pc := 725) (v := 1) dL_law_725 ic_1 ?_
  refine k_iadd hC (pc := 726) dL_law_726 ?_
  obtain ⟨c_158, h⟩ := h
  refine k_sld hC (pc := 727) hX c_158 dL_law_727 ?_
  refine k_aload_n hC (pc := 728) dL_law_728 0 rfl ?_
  refine k_iload_n hC (pc := 729) dL_law_729 3 rfl ?_
  refine k_iconst hC (pc := 730) (v := 2) dL_law_730 ic_2 ?_
  refine k_iadd hC (pc := 731) dL_law_731 ?_
  obtain ⟨c_159, h⟩ := h
  refine k_sld hC (pc := 732) hX c_159 dL_law_732 ?_
  refine k_ci (rn_V hC (pc := 733) (As := [.int (xs (x3 + 1).toNatClampNeg), .int (xs (x3 + 2).toNatClampNeg)]) (rest := [.int r_157]) ca_X12_rate ml_RL_70 im_X12_rate se_X12_rate (fx_in f6_0) (ob6_0 _ _ _ _ _) rfl rfl (ct_X12_rate (xs (x3 + 1).toNatClampNeg) (xs (x3 + 2).toNatClampNeg) h) (by rw [hR]; exact ⟨rfl, rfl, by decide, by decide⟩) rfl (Nat.le_of_ble_eq_true rfl) dL_law_733 ⟨by omega, by omega⟩) (fun r_161 s_160 h => ?_)
  refine k_icmp_eq hC (pc := 736) 1891 dL_law_736 (by decide) (fun c_162 => ?_) (fun c_162 => ?_)
  · have h := h.1 c_162
    obtain ⟨x_163, h_x_163⟩ : ∃ z : Int32, z = x3 + 6 := ⟨_, rfl⟩
    have h := h x_163 h_x_163
    refine k_iincw hC (pc := 1891) dL_law_1891 3 rfl ic_6 h_x_163.symm [(3, .int x_163), (0, .ref b), (1, .ref (adr X.G a 0 0)), (2, .ref (adr X.G a 6 0))] (by decide) rfl ?_
    refine k_goto hC (pc := 1894) 18 dL_law_1894 (by decide) ?_
    refine k_sub [(0, .ref b), (1, .ref (adr X.G a 0 0)), (2, .ref (adr X.G a 6 0)), (3, .int x_163)] [1, 2, 3, 0] rfl ?_
    refine k_widen (ce + 2) (sl + 19) (by omega) (by omega) ?_
    exact hK18 _ _ _ h
  · have h := h.2 c_162
    refine k_iconst hC (pc := 739) (v := 0) dL_law_739 ic_0 ?_
    exact k_lawret hC (pc := 740) hR hQ hr hX (by rw [hR] at hce; simp only [room_1] at hce; omega) (by rw [hR] at hsl; simp only [room_1] at hsl; omega) dL_law_740 h
set_option maxHeartbeats 4000000 in
theorem b_L_law_741 {X : Kx} {N L b : Nat} {xs : Nat → Int32} {ce sl : Nat} {K18 : Sx → Int32 → Prop}  (hC : Cx X cL_law 4 RL) (hR : X.R = room_1) (hQ : X.Q = lw_Z X.below X.av X.s) (hr : X.meth.sig.returnType = some .boolean) (hX : lw_X X b L xs) (hce : ce + 2 ≤ X.R.cells) (hsl : sl + 19 ≤ X.R.slots) (hK18 : ∀ (a : Ax) (s : Sx) (x3 : Int32), K18 s x3 → wk X a s 4 18 [(0, .ref b), (1, .ref (adr X.G a 0 0)), (2, .ref (adr X.G a 6 0)), (3, .int x3)] [] (ce + 2) (sl + 19)) (a : Ax) (s : Sx) (x3 : Int32) (h : w_L_law_741 N L xs K18 s x3) : wk X a s 4 741 [(0, .ref b), (1, .ref (adr X.G a 0 0)), (2, .ref (adr X.G a 6 0)), (3, .int x3)] [] ce sl := by
  unfold w_L_law_741 at h
  refine k_aload_n hC (pc := 741) dL_law_741 1 rfl ?_
  refine k_aload_n hC (pc := 742) dL_law_742 0 rfl ?_
  refine k_iload_n hC (pc := 743) dL_law_743 3 rfl ?_
  refine k_iconst hC (pc := 744) (v := 1) dL_law_744 ic_1 ?_
  refine k_iadd hC (pc := 745) dL_law_745 ?_
  obtain ⟨c_165, h⟩ := h
  refine k_sld hC (pc := 746) hX c_165 dL_law_746 ?_
  refine k_aload_n hC (pc := 747) dL_law_747 0 rfl ?_
  refine k_iload_n hC (pc := 748) dL_law_748 3 rfl ?_
  refine k_iconst hC (pc := 749) (v := 2) dL_law_749 ic_2 ?_
  refine k_iadd hC (pc := 750) dL_law_750 ?_
  obtain ⟨c_166, h⟩ := h
  refine k_sld hC (pc := 751) hX c_166 dL_law_751 ?_
  refine k_ci (rn_V hC (pc := 752) (As := [.int (xs (x3 + 1).toNatClampNeg), .int (xs (x3 + 2).toNatClampNeg)]) (rest := []) ca_X11_home ml_RL_71 im_X11_home se_X11_home (fx_in f0_0) (ob0_0 _ _ _ _ _) rfl rfl (ct_X11_home (xs (x3 + 1).toNatClampNeg) (xs (x3 + 2).toNatClampNeg) h) (by rw [hR]; exact ⟨rfl, rfl, by decide, by decide⟩) rfl (Nat.le_of_ble_eq_true rfl) dL_law_752 ⟨by omega, by omega⟩) (fun r_168 s_167 h => ?_)
  refine k_aload_n hC (pc := 755) dL_law_755 2 rfl ?_
  refine k_aload_n hC (pc := 756) dL_law_756 0 rfl ?_
  refine k_iload_n hC (pc := 757) dL_law_757 3 rfl ?_
  refine k_iconst hC (pc := 758) (v := 1) dL_law_758 ic_1 ?_
  refine k_iadd hC (pc := 759) dL_law_759 ?_
  obtain ⟨c_169, h⟩ := h
  refine k_sld hC (pc := 760) hX c_169 dL_law_760 ?_
  refine k_aload_n hC (pc := 761) dL_law_761 0 rfl ?_
  refine k_iload_n hC (pc := 762) dL_law_762 3 rfl ?_
  refine k_iconst hC (pc := 763) (v := 2) dL_law_763 ic_2 ?_
  refine k_iadd hC (pc := 764) dL_law_764 ?_
  obtain ⟨c_170, h⟩ := h
  refine k_sld hC (pc := 765) hX c_170 dL_law_765 ?_
  refine k_ci (rn_V hC (pc := 766) (As := [.int (xs (x3 + 1).toNatClampNeg), .int (xs (x3 + 2).toNatClampNeg)]) (rest := [.int r_168]) ca_X12_home ml_RL_74 im_X12_home se_X12_home (fx_in f6_0) (ob6_0 _ _ _ _ _) rfl rfl (ct_X12_home (xs (x3 + 1).toNatClampNeg) (xs (x3 + 2).toNatClampNeg) h) (by rw [hR]; exact ⟨rfl, rfl, by decide, by decide⟩) rfl (Nat.le_of_ble_eq_true rfl) dL_law_766 ⟨by omega, by omega⟩) (fun r_172 s_171 h => ?_)
  refine k_icmp_eq hC (pc := 769) 1891 dL_law_769 (by decide) (fun c_173 => ?_) (fun c_173 => ?_)
  · have h := h.1 c_173
    obtain ⟨x_174, h_x_174⟩ : ∃ z : Int32, z = x3 + 6 := ⟨_, rfl⟩
    have h := h x_174 h_x_174
    refine k_iincw hC (pc := 1891) dL_law_1891 3 rfl ic_6 h_x_174.symm [(3, .int x_174), (0, .ref b), (1, .ref (adr X.G a 0 0)), (2, .ref (adr X.G a 6 0))] (by decide) rfl ?_
    refine k_goto hC (pc := 1894) 18 dL_law_1894 (by decide) ?_
    refine k_sub [(0, .ref b), (1, .ref (adr X.G a 0 0)), (2, .ref (adr X.G a 6 0)), (3, .int x_174)] [1, 2, 3, 0] rfl ?_
    refine k_widen (ce + 2) (sl + 19) (by omega) (by omega) ?_
    exact hK18 _ _ _ h
  · have h := h.2 c_173
    refine k_iconst hC (pc := 772) (v := 0) dL_law_772 ic_0 ?_
    exact k_lawret hC (pc := 773) hR hQ hr hX (by rw [hR] at hce; simp only [room_1] at hce; omega) (by rw [hR] at hsl; simp only [room_1] at hsl; omega) dL_law_773 h
set_option maxHeartbeats 4000000 in
theorem b_L_law_774 {X : Kx} {N L b : Nat} {xs : Nat → Int32} {ce sl : Nat} {K18 : Sx → Int32 → Prop}  (hC : Cx X cL_law 4 RL) (hR : X.R = room_1) (hQ : X.Q = lw_Z X.below X.av X.s) (hr : X.meth.sig.returnType = some .boolean) (hX : lw_X X b L xs) (hce : ce + 2 ≤ X.R.cells) (hsl : sl + 19 ≤ X.R.slots) (hK18 : ∀ (a : Ax) (s : Sx) (x3 : Int32), K18 s x3 → wk X a s 4 18 [(0, .ref b), (1, .ref (adr X.G a 0 0)), (2, .ref (adr X.G a 6 0)), (3, .int x3)] [] (ce + 2) (sl + 19)) (a : Ax) (s : Sx) (x3 : Int32) (h : w_L_law_774 N L xs K18 s x3) : wk X a s 4 774 [(0, .ref b), (1, .ref (adr X.G a 0 0)), (2, .ref (adr X.G a 6 0)), (3, .int x3)] [] ce sl := by
  unfold w_L_law_774 at h
  refine k_aload_n hC (pc := 774) dL_law_774 1 rfl ?_
  refine k_aload_n hC (pc := 775) dL_law_775 0 rfl ?_
  refine k_iload_n hC (pc := 776) dL_law_776 3 rfl ?_
  refine k_iconst hC (pc := 777) (v := 1) dL_law_777 ic_1 ?_
  refine k_iadd hC (pc := 778) dL_law_778 ?_
  obtain ⟨c_176, h⟩ := h
  refine k_sld hC (pc := 779) hX c_176 dL_law_779 ?_
  refine k_aload_n hC (pc := 780) dL_law_780 0 rfl ?_
  refine k_iload_n hC (pc := 781) dL_law_781 3 rfl ?_
  refine k_iconst hC (pc := 782) (v := 2) dL_law_782 ic_2 ?_
  refine k_iadd hC (pc := 783) dL_law_783 ?_
  obtain ⟨c_177, h⟩ := h
  refine k_sld hC (pc := 784) hX c_177 dL_law_784 ?_
  refine k_aload_n hC (pc := 785) dL_law_785 0 rfl ?_
  refine k_iload_n hC (pc := 786) dL_law_786 3 rfl ?_
  refine k_iconst hC (pc := 787) (v := 3) dL_law_787 ic_3 ?_
  refine k_iadd hC (pc := 788) dL_law_788 ?_
  obtain ⟨c_178, h⟩ := h
  refine k_sld hC (pc := 789) hX c_178 dL_law_789 ?_
  refine k_ci (rn_V hC (pc := 790) (As := [.int (xs (x3 + 1).toNatClampNeg), .int (xs (x3 + 2).toNatClampNeg), .int (xs (x3 + 3).toNatClampNeg)]) (rest := []) ca_X11_fine ml_RL_75 im_X11_fine se_X11_fine (fx_in f0_0) (ob0_0 _ _ _ _ _) rfl rfl (ct_X11_fine (xs (x3 + 1).toNatClampNeg) (xs (x3 + 2).toNatClampNeg) (xs (x3 + 3).toNatClampNeg) h) (by rw [hR]; exact ⟨rfl, rfl, by decide, by decide⟩) rfl (Nat.le_of_ble_eq_true rfl) dL_law_790 ⟨by omega, by omega⟩) (fun r_180 s_179 h => ?_)
  refine k_aload_n hC (pc := 793) dL_law_793 2 rfl ?_
  refine k_aload_n hC (pc := 794) dL_law_794 0 rfl ?_
  refine k_iload_n hC (pc := 795) dL_law_795 3 rfl ?_
  refine k_iconst hC (pc := 796) (v := 1) dL_law_796 ic_1 ?_
  refine k_iadd hC (pc := 797) dL_law_797 ?_
  obtain ⟨c_181, h⟩ := h
  refine k_sld hC (pc := 798) hX c_181 dL_law_798 ?_
  refine k_aload_n hC (pc := 799) dL_law_799 0 rfl ?_
  refine k_iload_n hC (pc := 800) dL_law_800 3 rfl ?_
  refine k_iconst hC (pc := 801) (v := 2) dL_law_801 ic_2 ?_
  refine k_iadd hC (pc := 802) dL_law_802 ?_
  obtain ⟨c_182, h⟩ := h
  refine k_sld hC (pc := 803) hX c_182 dL_law_803 ?_
  refine k_aload_n hC (pc := 804) dL_law_804 0 rfl ?_
  refine k_iload_n hC (pc := 805) dL_law_805 3 rfl ?_
  refine k_iconst hC (pc := 806) (v := 3) dL_law_806 ic_3 ?_
  refine k_iadd hC (pc := 807) dL_law_807 ?_
  obtain ⟨c_183, h⟩ := h
  refine k_sld hC (pc := 808) hX c_183 dL_law_808 ?_
  refine k_ci (rn_V hC (pc := 809) (As := [.int (xs (x3 + 1).toNatClampNeg), .int (xs (x3 + 2).toNatClampNeg), .int (xs (x3 + 3).toNatClampNeg)]) (rest := [.int r_180]) ca_X12_fine ml_RL_78 im_X12_fine se_X12_fine (fx_in f6_0) (ob6_0 _ _ _ _ _) rfl rfl (ct_X12_fine (xs (x3 + 1).toNatClampNeg) (xs (x3 + 2).toNatClampNeg) (xs (x3 + 3).toNatClampNeg) h) (by rw [hR]; exact ⟨rfl, rfl, by decide, by decide⟩) rfl (Nat.le_of_ble_eq_true rfl) dL_law_809 ⟨by omega, by omega⟩) (fun r_185 s_184 h => ?_)
  refine k_icmp_eq hC (pc := 812) 1891 dL_law_812 (by decide) (fun c_186 => ?_) (fun c_186 => ?_)
  · have h := h.1 c_186
    obtain ⟨x_187, h_x_187⟩ : ∃ z : Int32, z = x3 + 6 := ⟨_, rfl⟩
    have h := h x_187 h_x_187
    refine k_iincw hC (pc := 1891) dL_law_1891 3 rfl ic_6 h_x_187.symm [(3, .int x_187), (0, .ref b), (1, .ref (adr X.G a 0 0)), (2, .ref (adr X.G a 6 0))] (by decide) rfl ?_
    refine k_goto hC (pc := 1894) 18 dL_law_1894 (by decide) ?_
    refine k_sub [(0, .ref b), (1, .ref (adr X.G a 0 0)), (2, .ref (adr X.G a 6 0)), (3, .int x_187)] [1, 2, 3, 0] rfl ?_
    refine k_widen (ce + 2) (sl + 19) (by omega) (by omega) ?_
    exact hK18 _ _ _ h
  · have h := h.2 c_186
    refine k_iconst hC (pc := 815) (v := 0) dL_law_815 ic_0 ?_
    exact k_lawret hC (pc := 816) hR hQ hr hX (by rw [hR] at hce; simp only [room_1] at hce; omega) (by rw [hR] at hsl; simp only [room_1] at hsl; omega) dL_law_816 h
set_option maxHeartbeats 4000000 in
theorem b_L_law_817 {X : Kx} {N L b : Nat} {xs : Nat → Int32} {ce sl : Nat} {K18 : Sx → Int32 → Prop}  (hC : Cx X cL_law 4 RL) (hR : X.R = room_1) (hQ : X.Q = lw_Z X.below X.av X.s) (hr : X.meth.sig.returnType = some .boolean) (hX : lw_X X b L xs) (hce : ce + 2 ≤ X.R.cells) (hsl : sl + 19 ≤ X.R.slots) (hK18 : ∀ (a : Ax) (s : Sx) (x3 : Int32), K18 s x3 → wk X a s 4 18 [(0, .ref b), (1, .ref (adr X.G a 0 0)), (2, .ref (adr X.G a 6 0)), (3, .int x3)] [] (ce + 2) (sl + 19)) (a : Ax) (s : Sx) (x3 : Int32) (h : w_L_law_817 N L xs K18 s x3) : wk X a s 4 817 [(0, .ref b), (1, .ref (adr X.G a 0 0)), (2, .ref (adr X.G a 6 0)), (3, .int x3)] [] ce sl := by
  unfold w_L_law_817 at h
  refine k_aload_n hC (pc := 817) dL_law_817 1 rfl ?_
  refine k_aload_n hC (pc := 818) dL_law_818 0 rfl ?_
  refine k_iload_n hC (pc := 819) dL_law_819 3 rfl ?_
  refine k_iconst hC (pc := 820) (v := 1) dL_law_820 ic_1 ?_
  refine k_iadd hC (pc := 821) dL_law_821 ?_
  obtain ⟨c_189, h⟩ := h
  refine k_sld hC (pc := 822) hX c_189 dL_law_822 ?_
  refine k_aload_n hC (pc := 823) dL_law_823 0 rfl ?_
  refine k_iload_n hC (pc := 824) dL_law_824 3 rfl ?_
  refine k_iconst hC (pc := 825) (v := 2) dL_law_825 ic_2 ?_
  refine k_iadd hC (pc := 826) dL_law_826 ?_
  obtain ⟨c_190, h⟩ := h
  refine k_sld hC (pc := 827) hX c_190 dL_law_827 ?_
  refine k_aload_n hC (pc := 828) dL_law_828 0 rfl ?_
  refine k_iload_n hC (pc := 829) dL_law_829 3 rfl ?_
  refine k_iconst hC (pc := 830) (v := 3) dL_law_830 ic_3 ?_
  refine k_iadd hC (pc := 831) dL_law_831 ?_
  obtain ⟨c_191, h⟩ := h
  refine k_sld hC (pc := 832) hX c_191 dL_law_832 ?_
  refine k_aload_n hC (pc := 833) dL_law_833 0 rfl ?_
  refine k_iload_n hC (pc := 834) dL_law_834 3 rfl ?_
  refine k_iconst hC (pc := 835) (v := 4) dL_law_835 ic_4 ?_
  refine k_iadd hC (pc := 836) dL_law_836 ?_
  obtain ⟨c_192, h⟩ := h
  refine k_sld hC (pc := 837) hX c_192 dL_law_837 ?_
  refine k_ci (rn_V hC (pc := 838) (As := [.int (xs (x3 + 1).toNatClampNeg), .int (xs (x3 + 2).toNatClampNeg), .int (xs (x3 + 3).toNatClampNeg), .int (xs (x3 + 4).toNatClampNeg)]) (rest := []) ca_X11_pay ml_RL_79 im_X11_pay se_X11_pay (fx_in f0_0) (ob0_0 _ _ _ _ _) rfl rfl (ct_X11_pay (xs (x3 + 1).toNatClampNeg) (xs (x3 + 2).toNatClampNeg) (xs (x3 + 3).toNatClampNeg) (xs (x3 + 4).toNatClampNeg) h) (by rw [hR]; exact ⟨rfl, rfl, by decide, by decide⟩) rfl (Nat.le_of_ble_eq_true rfl) dL_law_838 ⟨by omega, by omega⟩) (fun r_194 s_193 h => ?_)
  refine k_aload_n hC (pc := 841) dL_law_841 2 rfl ?_
  refine k_aload_n hC (pc := 842) dL_law_842 0 rfl ?_
  refine k_iload_n hC (pc := 843) dL_law_843 3 rfl ?_
  refine k_iconst hC (pc := 844) (v := 1) dL_law_844 ic_1 ?_
  refine k_iadd hC (pc := 845) dL_law_845 ?_
  obtain ⟨c_195, h⟩ := h
  refine k_sld hC (pc := 846) hX c_195 dL_law_846 ?_
  refine k_aload_n hC (pc := 847) dL_law_847 0 rfl ?_
  refine k_iload_n hC (pc := 848) dL_law_848 3 rfl ?_
  refine k_iconst hC (pc := 849) (v := 2) dL_law_849 ic_2 ?_
  refine k_iadd hC (pc := 850) dL_law_850 ?_
  obtain ⟨c_196, h⟩ := h
  refine k_sld hC (pc := 851) hX c_196 dL_law_851 ?_
  refine k_aload_n hC (pc := 852) dL_law_852 0 rfl ?_
  refine k_iload_n hC (pc := 853) dL_law_853 3 rfl ?_
  refine k_iconst hC (pc := 854) (v := 3) dL_law_854 ic_3 ?_
  refine k_iadd hC (pc := 855) dL_law_855 ?_
  obtain ⟨c_197, h⟩ := h
  refine k_sld hC (pc := 856) hX c_197 dL_law_856 ?_
  refine k_aload_n hC (pc := 857) dL_law_857 0 rfl ?_
  refine k_iload_n hC (pc := 858) dL_law_858 3 rfl ?_
  refine k_iconst hC (pc := 859) (v := 4) dL_law_859 ic_4 ?_
  refine k_iadd hC (pc := 860) dL_law_860 ?_
  obtain ⟨c_198, h⟩ := h
  refine k_sld hC (pc := 861) hX c_198 dL_law_861 ?_
  refine k_ci (rn_V hC (pc := 862) (As := [.int (xs (x3 + 1).toNatClampNeg), .int (xs (x3 + 2).toNatClampNeg), .int (xs (x3 + 3).toNatClampNeg), .int (xs (x3 + 4).toNatClampNeg)]) (rest := [.int r_194]) ca_X12_pay ml_RL_82 im_X12_pay se_X12_pay (fx_in f6_0) (ob6_0 _ _ _ _ _) rfl rfl (ct_X12_pay (xs (x3 + 1).toNatClampNeg) (xs (x3 + 2).toNatClampNeg) (xs (x3 + 3).toNatClampNeg) (xs (x3 + 4).toNatClampNeg) h) (by rw [hR]; exact ⟨rfl, rfl, by decide, by decide⟩) rfl (Nat.le_of_ble_eq_true rfl) dL_law_862 ⟨by omega, by omega⟩) (fun r_200 s_199 h => ?_)
  refine k_icmp_eq hC (pc := 865) 1891 dL_law_865 (by decide) (fun c_201 => ?_) (fun c_201 => ?_)
  · have h := h.1 c_201
    obtain ⟨x_202, h_x_202⟩ : ∃ z : Int32, z = x3 + 6 := ⟨_, rfl⟩
    have h := h x_202 h_x_202
    refine k_iincw hC (pc := 1891) dL_law_1891 3 rfl ic_6 h_x_202.symm [(3, .int x_202), (0, .ref b), (1, .ref (adr X.G a 0 0)), (2, .ref (adr X.G a 6 0))] (by decide) rfl ?_
    refine k_goto hC (pc := 1894) 18 dL_law_1894 (by decide) ?_
    refine k_sub [(0, .ref b), (1, .ref (adr X.G a 0 0)), (2, .ref (adr X.G a 6 0)), (3, .int x_202)] [1, 2, 3, 0] rfl ?_
    refine k_widen (ce + 2) (sl + 19) (by omega) (by omega) ?_
    exact hK18 _ _ _ h
  · have h := h.2 c_201
    refine k_iconst hC (pc := 868) (v := 0) dL_law_868 ic_0 ?_
    exact k_lawret hC (pc := 869) hR hQ hr hX (by rw [hR] at hce; simp only [room_1] at hce; omega) (by rw [hR] at hsl; simp only [room_1] at hsl; omega) dL_law_869 h
set_option maxHeartbeats 4000000 in
theorem b_L_law_870 {X : Kx} {N L b : Nat} {xs : Nat → Int32} {ce sl : Nat} {K18 : Sx → Int32 → Prop}  (hC : Cx X cL_law 4 RL) (hR : X.R = room_1) (hQ : X.Q = lw_Z X.below X.av X.s) (hr : X.meth.sig.returnType = some .boolean) (hX : lw_X X b L xs) (hce : ce + 2 ≤ X.R.cells) (hsl : sl + 19 ≤ X.R.slots) (hK18 : ∀ (a : Ax) (s : Sx) (x3 : Int32), K18 s x3 → wk X a s 4 18 [(0, .ref b), (1, .ref (adr X.G a 0 0)), (2, .ref (adr X.G a 6 0)), (3, .int x3)] [] (ce + 2) (sl + 19)) (a : Ax) (s : Sx) (x3 : Int32) (h : w_L_law_870 N L xs K18 s x3) : wk X a s 4 870 [(0, .ref b), (1, .ref (adr X.G a 0 0)), (2, .ref (adr X.G a 6 0)), (3, .int x3)] [] ce sl := by
  unfold w_L_law_870 at h
  refine k_aload_n hC (pc := 870) dL_law_870 1 rfl ?_
  refine k_aload_n hC (pc := 871) dL_law_871 0 rfl ?_
  refine k_iload_n hC (pc := 872) dL_law_872 3 rfl ?_
  refine k_iconst hC (pc := 873) (v := 1) dL_law_873 ic_1 ?_
  refine k_iadd hC (pc := 874) dL_law_874 ?_
  obtain ⟨c_204, h⟩ := h
  refine k_sld hC (pc := 875) hX c_204 dL_law_875 ?_
  refine k_aload_n hC (pc := 876) dL_law_876 0 rfl ?_
  refine k_iload_n hC (pc := 877) dL_law_877 3 rfl ?_
  refine k_iconst hC (pc := 878) (v := 2) dL_law_878 ic_2 ?_
  refine k_iadd hC (pc := 879) dL_law_879 ?_
  obtain ⟨c_205, h⟩ := h
  refine k_sld hC (pc := 880) hX c_205 dL_law_880 ?_
  refine k_aload_n hC (pc := 881) dL_law_881 0 rfl ?_
  refine k_iload_n hC (pc := 882) dL_law_882 3 rfl ?_
  refine k_iconst hC (pc := 883) (v := 3) dL_law_883 ic_3 ?_
  refine k_iadd hC (pc := 884) dL_law_884 ?_
  obtain ⟨c_206, h⟩ := h
  refine k_sld hC (pc := 885) hX c_206 dL_law_885 ?_
  refine k_ca (rn_V hC (pc := 886) (As := [.int (xs (x3 + 1).toNatClampNeg), .int (xs (x3 + 2).toNatClampNeg), .int (xs (x3 + 3).toNatClampNeg)]) (rest := []) ca_X11_work ml_RL_83 im_X11_work se_X11_work (fx_in f0_0) (ob0_0 _ _ _ _ _) rfl rfl (ct_X11_work (xs (x3 + 1).toNatClampNeg) (xs (x3 + 2).toNatClampNeg) (xs (x3 + 3).toNatClampNeg) h) (by rw [hR]; exact ⟨rfl, rfl, by decide, by decide⟩) rfl (Nat.le_of_ble_eq_true rfl) dL_law_886 ⟨by omega, by omega⟩) (fun r_208 a_209 s_207 h => ?_)
  refine k_aload_n hC (pc := 889) dL_law_889 2 rfl ?_
  refine k_aload_n hC (pc := 890) dL_law_890 0 rfl ?_
  refine k_iload_n hC (pc := 891) dL_law_891 3 rfl ?_
  refine k_iconst hC (pc := 892) (v := 1) dL_law_892 ic_1 ?_
  refine k_iadd hC (pc := 893) dL_law_893 ?_
  obtain ⟨c_210, h⟩ := h
  refine k_sld hC (pc := 894) hX c_210 dL_law_894 ?_
  refine k_aload_n hC (pc := 895) dL_law_895 0 rfl ?_
  refine k_iload_n hC (pc := 896) dL_law_896 3 rfl ?_
  refine k_iconst hC (pc := 897) (v := 2) dL_law_897 ic_2 ?_
  refine k_iadd hC (pc := 898) dL_law_898 ?_
  obtain ⟨c_211, h⟩ := h
  refine k_sld hC (pc := 899) hX c_211 dL_law_899 ?_
  refine k_aload_n hC (pc := 900) dL_law_900 0 rfl ?_
  refine k_iload_n hC (pc := 901) dL_law_901 3 rfl ?_
  refine k_iconst hC (pc := 902) (v := 3) dL_law_902 ic_3 ?_
  refine k_iadd hC (pc := 903) dL_law_903 ?_
  obtain ⟨c_212, h⟩ := h
  refine k_sld hC (pc := 904) hX c_212 dL_law_904 ?_
  refine k_ci (rn_V hC (pc := 905) (As := [.int (xs (x3 + 1).toNatClampNeg), .int (xs (x3 + 2).toNatClampNeg), .int (xs (x3 + 3).toNatClampNeg)]) (rest := [.int r_208]) ca_X12_work ml_RL_86 im_X12_work se_X12_work (fx_in f6_0) (ob6_0 _ _ _ _ _) rfl rfl (ct_X12_work (xs (x3 + 1).toNatClampNeg) (xs (x3 + 2).toNatClampNeg) (xs (x3 + 3).toNatClampNeg) h) (by rw [hR]; exact ⟨rfl, rfl, by decide, by decide⟩) rfl (Nat.le_of_ble_eq_true rfl) dL_law_905 ⟨by omega, by omega⟩) (fun r_214 s_213 h => ?_)
  refine k_icmp_eq hC (pc := 908) 1891 dL_law_908 (by decide) (fun c_215 => ?_) (fun c_215 => ?_)
  · have h := h.1 c_215
    obtain ⟨x_216, h_x_216⟩ : ∃ z : Int32, z = x3 + 6 := ⟨_, rfl⟩
    have h := h x_216 h_x_216
    refine k_iincw hC (pc := 1891) dL_law_1891 3 rfl ic_6 h_x_216.symm [(3, .int x_216), (0, .ref b), (1, .ref (adr X.G a 0 0)), (2, .ref (adr X.G a 6 0))] (by decide) rfl ?_
    refine k_goto hC (pc := 1894) 18 dL_law_1894 (by decide) ?_
    refine k_sub [(0, .ref b), (1, .ref (adr X.G a 0 0)), (2, .ref (adr X.G a 6 0)), (3, .int x_216)] [1, 2, 3, 0] rfl ?_
    refine k_widen (ce + 2) (sl + 19) (by omega) (by omega) ?_
    exact hK18 _ _ _ h
  · have h := h.2 c_215
    refine k_iconst hC (pc := 911) (v := 0) dL_law_911 ic_0 ?_
    exact k_lawret hC (pc := 912) hR hQ hr hX (by rw [hR] at hce; simp only [room_1] at hce; omega) (by rw [hR] at hsl; simp only [room_1] at hsl; omega) dL_law_912 h
set_option maxHeartbeats 4000000 in
theorem b_L_law_913 {X : Kx} {N L b : Nat} {xs : Nat → Int32} {ce sl : Nat} {K18 : Sx → Int32 → Prop}  (hC : Cx X cL_law 4 RL) (hR : X.R = room_1) (hQ : X.Q = lw_Z X.below X.av X.s) (hr : X.meth.sig.returnType = some .boolean) (hX : lw_X X b L xs) (hce : ce + 2 ≤ X.R.cells) (hsl : sl + 19 ≤ X.R.slots) (hK18 : ∀ (a : Ax) (s : Sx) (x3 : Int32), K18 s x3 → wk X a s 4 18 [(0, .ref b), (1, .ref (adr X.G a 0 0)), (2, .ref (adr X.G a 6 0)), (3, .int x3)] [] (ce + 2) (sl + 19)) (a : Ax) (s : Sx) (x3 : Int32) (h : w_L_law_913 N L xs K18 s x3) : wk X a s 4 913 [(0, .ref b), (1, .ref (adr X.G a 0 0)), (2, .ref (adr X.G a 6 0)), (3, .int x3)] [] ce sl := by
  unfold w_L_law_913 at h
  refine k_aload_n hC (pc := 913) dL_law_913 1 rfl ?_
  refine k_aload_n hC (pc := 914) dL_law_914 0 rfl ?_
  refine k_iload_n hC (pc := 915) dL_law_915 3 rfl ?_
  refine k_iconst hC (pc := 916) (v := 1) dL_law_916 ic_1 ?_
  refine k_iadd hC (pc := 917) dL_law_917 ?_
  obtain ⟨c_218, h⟩ := h
  refine k_sld hC (pc := 918) hX c_218 dL_law_918 ?_
  refine k_aload_n hC (pc := 919) dL_law_919 0 rfl ?_
  refine k_iload_n hC (pc := 920) dL_law_920 3 rfl ?_
  refine k_iconst hC (pc := 921) (v := 2) dL_law_921 ic_2 ?_
  refine k_iadd hC (pc := 922) dL_law_922 ?_
  obtain ⟨c_219, h⟩ := h
  refine k_sld hC (pc := 923) hX c_219 dL_law_923 ?_
  refine k_aload_n hC (pc := 924) dL_law_924 0 rfl ?_
  refine k_iload_n hC (pc := 925) dL_law_925 3 rfl ?_
  refine k_iconst hC (pc := 926) (v := 3) dL_law_926 ic_3 ?_
  refine k_iadd hC (pc := 927) dL_law_927 ?_
  obtain ⟨c_220, h⟩ := h
  refine k_sld hC (pc := 928) hX c_220 dL_law_928 ?_
  refine k_ci (rn_V hC (pc := 929) (As := [.int (xs (x3 + 1).toNatClampNeg), .int (xs (x3 + 2).toNatClampNeg), .int (xs (x3 + 3).toNatClampNeg)]) (rest := []) ca_X11_hands ml_RL_87 im_X11_hands se_X11_hands (fx_in f0_0) (ob0_0 _ _ _ _ _) rfl rfl (ct_X11_hands (xs (x3 + 1).toNatClampNeg) (xs (x3 + 2).toNatClampNeg) (xs (x3 + 3).toNatClampNeg) h) (by rw [hR]; exact ⟨rfl, rfl, by decide, by decide⟩) rfl (Nat.le_of_ble_eq_true rfl) dL_law_929 ⟨by omega, by omega⟩) (fun r_222 s_221 h => ?_)
  refine k_aload_n hC (pc := 932) dL_law_932 2 rfl ?_
  refine k_aload_n hC (pc := 933) dL_law_933 0 rfl ?_
  refine k_iload_n hC (pc := 934) dL_law_934 3 rfl ?_
  refine k_iconst hC (pc := 935) (v := 1) dL_law_935 ic_1 ?_
  refine k_iadd hC (pc := 936) dL_law_936 ?_
  obtain ⟨c_223, h⟩ := h
  refine k_sld hC (pc := 937) hX c_223 dL_law_937 ?_
  refine k_aload_n hC (pc := 938) dL_law_938 0 rfl ?_
  refine k_iload_n hC (pc := 939) dL_law_939 3 rfl ?_
  refine k_iconst hC (pc := 940) (v := 2) dL_law_940 ic_2 ?_
  refine k_iadd hC (pc := 941) dL_law_941 ?_
  obtain ⟨c_224, h⟩ := h
  refine k_sld hC (pc := 942) hX c_224 dL_law_942 ?_
  refine k_aload_n hC (pc := 943) dL_law_943 0 rfl ?_
  refine k_iload_n hC (pc := 944) dL_law_944 3 rfl ?_
  refine k_iconst hC (pc := 945) (v := 3) dL_law_945 ic_3 ?_
  refine k_iadd hC (pc := 946) dL_law_946 ?_
  obtain ⟨c_225, h⟩ := h
  refine k_sld hC (pc := 947) hX c_225 dL_law_947 ?_
  refine k_ci (rn_V hC (pc := 948) (As := [.int (xs (x3 + 1).toNatClampNeg), .int (xs (x3 + 2).toNatClampNeg), .int (xs (x3 + 3).toNatClampNeg)]) (rest := [.int r_222]) ca_X12_hands ml_RL_90 im_X12_hands se_X12_hands (fx_in f6_0) (ob6_0 _ _ _ _ _) rfl rfl (ct_X12_hands (xs (x3 + 1).toNatClampNeg) (xs (x3 + 2).toNatClampNeg) (xs (x3 + 3).toNatClampNeg) h) (by rw [hR]; exact ⟨rfl, rfl, by decide, by decide⟩) rfl (Nat.le_of_ble_eq_true rfl) dL_law_948 ⟨by omega, by omega⟩) (fun r_227 s_226 h => ?_)
  refine k_icmp_eq hC (pc := 951) 1891 dL_law_951 (by decide) (fun c_228 => ?_) (fun c_228 => ?_)
  · have h := h.1 c_228
    obtain ⟨x_229, h_x_229⟩ : ∃ z : Int32, z = x3 + 6 := ⟨_, rfl⟩
    have h := h x_229 h_x_229
    refine k_iincw hC (pc := 1891) dL_law_1891 3 rfl ic_6 h_x_229.symm [(3, .int x_229), (0, .ref b), (1, .ref (adr X.G a 0 0)), (2, .ref (adr X.G a 6 0))] (by decide) rfl ?_
    refine k_goto hC (pc := 1894) 18 dL_law_1894 (by decide) ?_
    refine k_sub [(0, .ref b), (1, .ref (adr X.G a 0 0)), (2, .ref (adr X.G a 6 0)), (3, .int x_229)] [1, 2, 3, 0] rfl ?_
    refine k_widen (ce + 2) (sl + 19) (by omega) (by omega) ?_
    exact hK18 _ _ _ h
  · have h := h.2 c_228
    refine k_iconst hC (pc := 954) (v := 0) dL_law_954 ic_0 ?_
    exact k_lawret hC (pc := 955) hR hQ hr hX (by rw [hR] at hce; simp only [room_1] at hce; omega) (by rw [hR] at hsl; simp only [room_1] at hsl; omega) dL_law_955 h
set_option maxHeartbeats 4000000 in
theorem b_L_law_956 {X : Kx} {N L b : Nat} {xs : Nat → Int32} {ce sl : Nat} {K18 : Sx → Int32 → Prop}  (hC : Cx X cL_law 4 RL) (hR : X.R = room_1) (hQ : X.Q = lw_Z X.below X.av X.s) (hr : X.meth.sig.returnType = some .boolean) (hX : lw_X X b L xs) (hce : ce + 2 ≤ X.R.cells) (hsl : sl + 19 ≤ X.R.slots) (hK18 : ∀ (a : Ax) (s : Sx) (x3 : Int32), K18 s x3 → wk X a s 4 18 [(0, .ref b), (1, .ref (adr X.G a 0 0)), (2, .ref (adr X.G a 6 0)), (3, .int x3)] [] (ce + 2) (sl + 19)) (a : Ax) (s : Sx) (x3 : Int32) (h : w_L_law_956 N L xs K18 s x3) : wk X a s 4 956 [(0, .ref b), (1, .ref (adr X.G a 0 0)), (2, .ref (adr X.G a 6 0)), (3, .int x3)] [] ce sl := by
  unfold w_L_law_956 at h
  refine k_aload_n hC (pc := 956) dL_law_956 1 rfl ?_
  refine k_aload_n hC (pc := 957) dL_law_957 0 rfl ?_
  refine k_iload_n hC (pc := 958) dL_law_958 3 rfl ?_
  refine k_iconst hC (pc := 959) (v := 1) dL_law_959 ic_1 ?_
  refine k_iadd hC (pc := 960) dL_law_960 ?_
  obtain ⟨c_231, h⟩ := h
  refine k_sld hC (pc := 961) hX c_231 dL_law_961 ?_
  refine k_aload_n hC (pc := 962) dL_law_962 0 rfl ?_
  refine k_iload_n hC (pc := 963) dL_law_963 3 rfl ?_
  refine k_iconst hC (pc := 964) (v := 2) dL_law_964 ic_2 ?_
  refine k_iadd hC (pc := 965) dL_law_965 ?_
  obtain ⟨c_232, h⟩ := h
  refine k_sld hC (pc := 966) hX c_232 dL_law_966 ?_
  refine k_aload_n hC (pc := 967) dL_law_967 0 rfl ?_
  refine k_iload_n hC (pc := 968) dL_law_968 3 rfl ?_
  refine k_iconst hC (pc := 969) (v := 3) dL_law_969 ic_3 ?_
  refine k_iadd hC (pc := 970) dL_law_970 ?_
  obtain ⟨c_233, h⟩ := h
  refine k_sld hC (pc := 971) hX c_233 dL_law_971 ?_
  refine k_aload_n hC (pc := 972) dL_law_972 0 rfl ?_
  refine k_iload_n hC (pc := 973) dL_law_973 3 rfl ?_
  refine k_iconst hC (pc := 974) (v := 4) dL_law_974 ic_4 ?_
  refine k_iadd hC (pc := 975) dL_law_975 ?_
  obtain ⟨c_234, h⟩ := h
  refine k_sld hC (pc := 976) hX c_234 dL_law_976 ?_
  refine k_aload_n hC (pc := 977) dL_law_977 0 rfl ?_
  refine k_iload_n hC (pc := 978) dL_law_978 3 rfl ?_
  refine k_iconst hC (pc := 979) (v := 5) dL_law_979 ic_5 ?_
  refine k_iadd hC (pc := 980) dL_law_980 ?_
  obtain ⟨c_235, h⟩ := h
  refine k_sld hC (pc := 981) hX c_235 dL_law_981 ?_
  refine k_ci (rn_V hC (pc := 982) (As := [.int (xs (x3 + 1).toNatClampNeg), .int (xs (x3 + 2).toNatClampNeg), .int (xs (x3 + 3).toNatClampNeg), .int (xs (x3 + 4).toNatClampNeg), .int (xs (x3 + 5).toNatClampNeg)]) (rest := []) ca_X11_row ml_RL_91 im_X11_row se_X11_row (fx_in f0_0) (ob0_0 _ _ _ _ _) rfl rfl (ct_X11_row (xs (x3 + 1).toNatClampNeg) (xs (x3 + 2).toNatClampNeg) (xs (x3 + 3).toNatClampNeg) (xs (x3 + 4).toNatClampNeg) (xs (x3 + 5).toNatClampNeg) h) (by rw [hR]; exact ⟨rfl, rfl, by decide, by decide⟩) rfl (Nat.le_of_ble_eq_true rfl) dL_law_982 ⟨by omega, by omega⟩) (fun r_237 s_236 h => ?_)
  refine k_aload_n hC (pc := 985) dL_law_985 2 rfl ?_
  refine k_aload_n hC (pc := 986) dL_law_986 0 rfl ?_
  refine k_iload_n hC (pc := 987) dL_law_987 3 rfl ?_
  refine k_iconst hC (pc := 988) (v := 1) dL_law_988 ic_1 ?_
  refine k_iadd hC (pc := 989) dL_law_989 ?_
  obtain ⟨c_238, h⟩ := h
  refine k_sld hC (pc := 990) hX c_238 dL_law_990 ?_
  refine k_aload_n hC (pc := 991) dL_law_991 0 rfl ?_
  refine k_iload_n hC (pc := 992) dL_law_992 3 rfl ?_
  refine k_iconst hC (pc := 993) (v := 2) dL_law_993 ic_2 ?_
  refine k_iadd hC (pc := 994) dL_law_994 ?_
  obtain ⟨c_239, h⟩ := h
  refine k_sld hC (pc := 995) hX c_239 dL_law_995 ?_
  refine k_aload_n hC (pc := 996) dL_law_996 0 rfl ?_
  refine k_iload_n hC (pc := 997) dL_law_997 3 rfl ?_
  refine k_iconst hC (pc := 998) (v := 3) dL_law_998 ic_3 ?_
  refine k_iadd hC (pc := 999) dL_law_999 ?_
  obtain ⟨c_240, h⟩ := h
  refine k_sld hC (pc := 1000) hX c_240 dL_law_1000 ?_
  refine k_aload_n hC (pc := 1001) dL_law_1001 0 rfl ?_
  refine k_iload_n hC (pc := 1002) dL_law_1002 3 rfl ?_
  refine k_iconst hC (pc := 1003) (v := 4) dL_law_1003 ic_4 ?_
  refine k_iadd hC (pc := 1004) dL_law_1004 ?_
  obtain ⟨c_241, h⟩ := h
  refine k_sld hC (pc := 1005) hX c_241 dL_law_1005 ?_
  refine k_aload_n hC (pc := 1006) dL_law_1006 0 rfl ?_
  refine k_iload_n hC (pc := 1007) dL_law_1007 3 rfl ?_
  refine k_iconst hC (pc := 1008) (v := 5) dL_law_1008 ic_5 ?_
  refine k_iadd hC (pc := 1009) dL_law_1009 ?_
  obtain ⟨c_242, h⟩ := h
  refine k_sld hC (pc := 1010) hX c_242 dL_law_1010 ?_
  refine k_ci (rn_V hC (pc := 1011) (As := [.int (xs (x3 + 1).toNatClampNeg), .int (xs (x3 + 2).toNatClampNeg), .int (xs (x3 + 3).toNatClampNeg), .int (xs (x3 + 4).toNatClampNeg), .int (xs (x3 + 5).toNatClampNeg)]) (rest := [.int r_237]) ca_X12_row ml_RL_94 im_X12_row se_X12_row (fx_in f6_0) (ob6_0 _ _ _ _ _) rfl rfl (ct_X12_row (xs (x3 + 1).toNatClampNeg) (xs (x3 + 2).toNatClampNeg) (xs (x3 + 3).toNatClampNeg) (xs (x3 + 4).toNatClampNeg) (xs (x3 + 5).toNatClampNeg) h) (by rw [hR]; exact ⟨rfl, rfl, by decide, by decide⟩) rfl (Nat.le_of_ble_eq_true rfl) dL_law_1011 ⟨by omega, by omega⟩) (fun r_244 s_243 h => ?_)
  refine k_icmp_eq hC (pc := 1014) 1891 dL_law_1014 (by decide) (fun c_245 => ?_) (fun c_245 => ?_)
  · have h := h.1 c_245
    obtain ⟨x_246, h_x_246⟩ : ∃ z : Int32, z = x3 + 6 := ⟨_, rfl⟩
    have h := h x_246 h_x_246
    refine k_iincw hC (pc := 1891) dL_law_1891 3 rfl ic_6 h_x_246.symm [(3, .int x_246), (0, .ref b), (1, .ref (adr X.G a 0 0)), (2, .ref (adr X.G a 6 0))] (by decide) rfl ?_
    refine k_goto hC (pc := 1894) 18 dL_law_1894 (by decide) ?_
    refine k_sub [(0, .ref b), (1, .ref (adr X.G a 0 0)), (2, .ref (adr X.G a 6 0)), (3, .int x_246)] [1, 2, 3, 0] rfl ?_
    refine k_widen (ce + 2) (sl + 19) (by omega) (by omega) ?_
    exact hK18 _ _ _ h
  · have h := h.2 c_245
    refine k_iconst hC (pc := 1017) (v := 0) dL_law_1017 ic_0 ?_
    exact k_lawret hC (pc := 1018) hR hQ hr hX (by rw [hR] at hce; simp only [room_1] at hce; omega) (by rw [hR] at hsl; simp only [room_1] at hsl; omega) dL_law_1018 h
set_option maxHeartbeats 4000000 in
theorem b_L_law_1019 {X : Kx} {N L b : Nat} {xs : Nat → Int32} {ce sl : Nat} {K18 : Sx → Int32 → Prop}  (hC : Cx X cL_law 4 RL) (hR : X.R = room_1) (hQ : X.Q = lw_Z X.below X.av X.s) (hr : X.meth.sig.returnType = some .boolean) (hX : lw_X X b L xs) (hce : ce + 2 ≤ X.R.cells) (hsl : sl + 19 ≤ X.R.slots) (hK18 : ∀ (a : Ax) (s : Sx) (x3 : Int32), K18 s x3 → wk X a s 4 18 [(0, .ref b), (1, .ref (adr X.G a 0 0)), (2, .ref (adr X.G a 6 0)), (3, .int x3)] [] (ce + 2) (sl + 19)) (a : Ax) (s : Sx) (x3 : Int32) (h : w_L_law_1019 N L xs K18 s x3) : wk X a s 4 1019 [(0, .ref b), (1, .ref (adr X.G a 0 0)), (2, .ref (adr X.G a 6 0)), (3, .int x3)] [] ce sl := by
  unfold w_L_law_1019 at h
  refine k_aload_n hC (pc := 1019) dL_law_1019 1 rfl ?_
  refine k_ci (rn_V hC (pc := 1020) (As := []) (rest := []) ca_X11_week ml_RL_95 im_X11_week se_X11_week (fx_in f0_0) (ob0_0 _ _ _ _ _) rfl rfl (ct_X11_week h) (by rw [hR]; exact ⟨rfl, rfl, by decide, by decide⟩) rfl (Nat.le_of_ble_eq_true rfl) dL_law_1020 ⟨by omega, by omega⟩) (fun r_249 s_248 h => ?_)
  refine k_aload_n hC (pc := 1023) dL_law_1023 2 rfl ?_
  refine k_ci (rn_V hC (pc := 1024) (As := []) (rest := [.int r_249]) ca_X12_week ml_RL_98 im_X12_week se_X12_week (fx_in f6_0) (ob6_0 _ _ _ _ _) rfl rfl (ct_X12_week h) (by rw [hR]; exact ⟨rfl, rfl, by decide, by decide⟩) rfl (Nat.le_of_ble_eq_true rfl) dL_law_1024 ⟨by omega, by omega⟩) (fun r_251 s_250 h => ?_)
  refine k_icmp_eq hC (pc := 1027) 1891 dL_law_1027 (by decide) (fun c_252 => ?_) (fun c_252 => ?_)
  · have h := h.1 c_252
    obtain ⟨x_253, h_x_253⟩ : ∃ z : Int32, z = x3 + 6 := ⟨_, rfl⟩
    have h := h x_253 h_x_253
    refine k_iincw hC (pc := 1891) dL_law_1891 3 rfl ic_6 h_x_253.symm [(3, .int x_253), (0, .ref b), (1, .ref (adr X.G a 0 0)), (2, .ref (adr X.G a 6 0))] (by decide) rfl ?_
    refine k_goto hC (pc := 1894) 18 dL_law_1894 (by decide) ?_
    refine k_sub [(0, .ref b), (1, .ref (adr X.G a 0 0)), (2, .ref (adr X.G a 6 0)), (3, .int x_253)] [1, 2, 3, 0] rfl ?_
    refine k_widen (ce + 2) (sl + 19) (by omega) (by omega) ?_
    exact hK18 _ _ _ h
  · have h := h.2 c_252
    refine k_iconst hC (pc := 1030) (v := 0) dL_law_1030 ic_0 ?_
    exact k_lawret hC (pc := 1031) hR hQ hr hX (by rw [hR] at hce; simp only [room_1] at hce; omega) (by rw [hR] at hsl; simp only [room_1] at hsl; omega) dL_law_1031 h
set_option maxHeartbeats 4000000 in
theorem b_L_law_1032 {X : Kx} {N L b : Nat} {xs : Nat → Int32} {ce sl : Nat} {K18 : Sx → Int32 → Prop}  (hC : Cx X cL_law 4 RL) (hR : X.R = room_1) (hQ : X.Q = lw_Z X.below X.av X.s) (hr : X.meth.sig.returnType = some .boolean) (hX : lw_X X b L xs) (hce : ce + 2 ≤ X.R.cells) (hsl : sl + 19 ≤ X.R.slots) (hK18 : ∀ (a : Ax) (s : Sx) (x3 : Int32), K18 s x3 → wk X a s 4 18 [(0, .ref b), (1, .ref (adr X.G a 0 0)), (2, .ref (adr X.G a 6 0)), (3, .int x3)] [] (ce + 2) (sl + 19)) (a : Ax) (s : Sx) (x3 : Int32) (h : w_L_law_1032 N L xs K18 s x3) : wk X a s 4 1032 [(0, .ref b), (1, .ref (adr X.G a 0 0)), (2, .ref (adr X.G a 6 0)), (3, .int x3)] [] ce sl := by
  unfold w_L_law_1032 at h
  refine k_aload_n hC (pc := 1032) dL_law_1032 1 rfl ?_
  refine k_aload_n hC (pc := 1033) dL_law_1033 0 rfl ?_
  refine k_iload_n hC (pc := 1034) dL_law_1034 3 rfl ?_
  refine k_iconst hC (pc := 1035) (v := 1) dL_law_1035 ic_1 ?_
  refine k_iadd hC (pc := 1036) dL_law_1036 ?_
  obtain ⟨c_255, h⟩ := h
  refine k_sld hC (pc := 1037) hX c_255 dL_law_1037 ?_
  refine k_aload_n hC (pc := 1038) dL_law_1038 0 rfl ?_
  refine k_iload_n hC (pc := 1039) dL_law_1039 3 rfl ?_
  refine k_iconst hC (pc := 1040) (v := 2) dL_law_1040 ic_2 ?_
  refine k_iadd hC (pc := 1041) dL_law_1041 ?_
  obtain ⟨c_256, h⟩ := h
  refine k_sld hC (pc := 1042) hX c_256 dL_law_1042 ?_
  refine k_ci (rn_V hC (pc := 1043) (As := [.int (xs (x3 + 1).toNatClampNeg), .int (xs (x3 + 2).toNatClampNeg)]) (rest := []) ca_X11_ofWork ml_RL_99 im_X11_ofWork se_X11_ofWork (fx_in f0_0) (ob0_0 _ _ _ _ _) rfl rfl (ct_X11_ofWork (xs (x3 + 1).toNatClampNeg) (xs (x3 + 2).toNatClampNeg) h) (by rw [hR]; exact ⟨rfl, rfl, by decide, by decide⟩) rfl (Nat.le_of_ble_eq_true rfl) dL_law_1043 ⟨by omega, by omega⟩) (fun r_258 s_257 h => ?_)
  refine k_aload_n hC (pc := 1046) dL_law_1046 2 rfl ?_
  refine k_aload_n hC (pc := 1047) dL_law_1047 0 rfl ?_
  refine k_iload_n hC (pc := 1048) dL_law_1048 3 rfl ?_
  refine k_iconst hC (pc := 1049) (v := 1) dL_law_1049 ic_1 ?_
  refine k_iadd hC (pc := 1050) dL_law_1050 ?_
  obtain ⟨c_259, h⟩ := h
  refine k_sld hC (pc := 1051) hX c_259 dL_law_1051 ?_
  refine k_aload_n hC (pc := 1052) dL_law_1052 0 rfl ?_
  refine k_iload_n hC (pc := 1053) dL_law_1053 3 rfl ?_
  refine k_iconst hC (pc := 1054) (v := 2) dL_law_1054 ic_2 ?_
  refine k_iadd hC (pc := 1055) dL_law_1055 ?_
  obtain ⟨c_260, h⟩ := h
  refine k_sld hC (pc := 1056) hX c_260 dL_law_1056 ?_
  refine k_ci (rn_V hC (pc := 1057) (As := [.int (xs (x3 + 1).toNatClampNeg), .int (xs (x3 + 2).toNatClampNeg)]) (rest := [.int r_258]) ca_X12_ofWork ml_RL_102 im_X12_ofWork se_X12_ofWork (fx_in f6_0) (ob6_0 _ _ _ _ _) rfl rfl (ct_X12_ofWork (xs (x3 + 1).toNatClampNeg) (xs (x3 + 2).toNatClampNeg) h) (by rw [hR]; exact ⟨rfl, rfl, by decide, by decide⟩) rfl (Nat.le_of_ble_eq_true rfl) dL_law_1057 ⟨by omega, by omega⟩) (fun r_262 s_261 h => ?_)
  refine k_icmp_eq hC (pc := 1060) 1891 dL_law_1060 (by decide) (fun c_263 => ?_) (fun c_263 => ?_)
  · have h := h.1 c_263
    obtain ⟨x_264, h_x_264⟩ : ∃ z : Int32, z = x3 + 6 := ⟨_, rfl⟩
    have h := h x_264 h_x_264
    refine k_iincw hC (pc := 1891) dL_law_1891 3 rfl ic_6 h_x_264.symm [(3, .int x_264), (0, .ref b), (1, .ref (adr X.G a 0 0)), (2, .ref (adr X.G a 6 0))] (by decide) rfl ?_
    refine k_goto hC (pc := 1894) 18 dL_law_1894 (by decide) ?_
    refine k_sub [(0, .ref b), (1, .ref (adr X.G a 0 0)), (2, .ref (adr X.G a 6 0)), (3, .int x_264)] [1, 2, 3, 0] rfl ?_
    refine k_widen (ce + 2) (sl + 19) (by omega) (by omega) ?_
    exact hK18 _ _ _ h
  · have h := h.2 c_263
    refine k_iconst hC (pc := 1063) (v := 0) dL_law_1063 ic_0 ?_
    exact k_lawret hC (pc := 1064) hR hQ hr hX (by rw [hR] at hce; simp only [room_1] at hce; omega) (by rw [hR] at hsl; simp only [room_1] at hsl; omega) dL_law_1064 h
set_option maxHeartbeats 4000000 in
theorem b_L_law_1065 {X : Kx} {N L b : Nat} {xs : Nat → Int32} {ce sl : Nat} {K18 : Sx → Int32 → Prop}  (hC : Cx X cL_law 4 RL) (hR : X.R = room_1) (hQ : X.Q = lw_Z X.below X.av X.s) (hr : X.meth.sig.returnType = some .boolean) (hX : lw_X X b L xs) (hce : ce + 2 ≤ X.R.cells) (hsl : sl + 19 ≤ X.R.slots) (hK18 : ∀ (a : Ax) (s : Sx) (x3 : Int32), K18 s x3 → wk X a s 4 18 [(0, .ref b), (1, .ref (adr X.G a 0 0)), (2, .ref (adr X.G a 6 0)), (3, .int x3)] [] (ce + 2) (sl + 19)) (a : Ax) (s : Sx) (x3 : Int32) (h : w_L_law_1065 N L xs K18 s x3) : wk X a s 4 1065 [(0, .ref b), (1, .ref (adr X.G a 0 0)), (2, .ref (adr X.G a 6 0)), (3, .int x3)] [] ce sl := by
  unfold w_L_law_1065 at h
  refine k_aload_n hC (pc := 1065) dL_law_1065 1 rfl ?_
  refine k_aload_n hC (pc := 1066) dL_law_1066 0 rfl ?_
  refine k_iload_n hC (pc := 1067) dL_law_1067 3 rfl ?_
  refine k_iconst hC (pc := 1068) (v := 1) dL_law_1068 ic_1 ?_
  refine k_iadd hC (pc := 1069) dL_law_1069 ?_
  obtain ⟨c_266, h⟩ := h
  refine k_sld hC (pc := 1070) hX c_266 dL_law_1070 ?_
  refine k_aload_n hC (pc := 1071) dL_law_1071 0 rfl ?_
  refine k_iload_n hC (pc := 1072) dL_law_1072 3 rfl ?_
  refine k_iconst hC (pc := 1073) (v := 2) dL_law_1073 ic_2 ?_
  refine k_iadd hC (pc := 1074) dL_law_1074 ?_
  obtain ⟨c_267, h⟩ := h
  refine k_sld hC (pc := 1075) hX c_267 dL_law_1075 ?_
  refine k_aload_n hC (pc := 1076) dL_law_1076 0 rfl ?_
  refine k_iload_n hC (pc := 1077) dL_law_1077 3 rfl ?_
  refine k_iconst hC (pc := 1078) (v := 3) dL_law_1078 ic_3 ?_
  refine k_iadd hC (pc := 1079) dL_law_1079 ?_
  obtain ⟨c_268, h⟩ := h
  refine k_sld hC (pc := 1080) hX c_268 dL_law_1080 ?_
  refine k_ci (rn_V hC (pc := 1081) (As := [.int (xs (x3 + 1).toNatClampNeg), .int (xs (x3 + 2).toNatClampNeg), .int (xs (x3 + 3).toNatClampNeg)]) (rest := []) ca_X11_level ml_RL_103 im_X11_level se_X11_level (fx_in f0_0) (ob0_0 _ _ _ _ _) rfl rfl (ct_X11_level (xs (x3 + 1).toNatClampNeg) (xs (x3 + 2).toNatClampNeg) (xs (x3 + 3).toNatClampNeg) h) (by rw [hR]; exact ⟨rfl, rfl, by decide, by decide⟩) rfl (Nat.le_of_ble_eq_true rfl) dL_law_1081 ⟨by omega, by omega⟩) (fun r_270 s_269 h => ?_)
  refine k_aload_n hC (pc := 1084) dL_law_1084 2 rfl ?_
  refine k_aload_n hC (pc := 1085) dL_law_1085 0 rfl ?_
  refine k_iload_n hC (pc := 1086) dL_law_1086 3 rfl ?_
  refine k_iconst hC (pc := 1087) (v := 1) dL_law_1087 ic_1 ?_
  refine k_iadd hC (pc := 1088) dL_law_1088 ?_
  obtain ⟨c_271, h⟩ := h
  refine k_sld hC (pc := 1089) hX c_271 dL_law_1089 ?_
  refine k_aload_n hC (pc := 1090) dL_law_1090 0 rfl ?_
  refine k_iload_n hC (pc := 1091) dL_law_1091 3 rfl ?_
  refine k_iconst hC (pc := 1092) (v := 2) dL_law_1092 ic_2 ?_
  refine k_iadd hC (pc := 1093) dL_law_1093 ?_
  obtain ⟨c_272, h⟩ := h
  refine k_sld hC (pc := 1094) hX c_272 dL_law_1094 ?_
  refine k_aload_n hC (pc := 1095) dL_law_1095 0 rfl ?_
  refine k_iload_n hC (pc := 1096) dL_law_1096 3 rfl ?_
  refine k_iconst hC (pc := 1097) (v := 3) dL_law_1097 ic_3 ?_
  refine k_iadd hC (pc := 1098) dL_law_1098 ?_
  obtain ⟨c_273, h⟩ := h
  refine k_sld hC (pc := 1099) hX c_273 dL_law_1099 ?_
  refine k_ci (rn_V hC (pc := 1100) (As := [.int (xs (x3 + 1).toNatClampNeg), .int (xs (x3 + 2).toNatClampNeg), .int (xs (x3 + 3).toNatClampNeg)]) (rest := [.int r_270]) ca_X12_level ml_RL_106 im_X12_level se_X12_level (fx_in f6_0) (ob6_0 _ _ _ _ _) rfl rfl (ct_X12_level (xs (x3 + 1).toNatClampNeg) (xs (x3 + 2).toNatClampNeg) (xs (x3 + 3).toNatClampNeg) h) (by rw [hR]; exact ⟨rfl, rfl, by decide, by decide⟩) rfl (Nat.le_of_ble_eq_true rfl) dL_law_1100 ⟨by omega, by omega⟩) (fun r_275 s_274 h => ?_)
  refine k_icmp_eq hC (pc := 1103) 1891 dL_law_1103 (by decide) (fun c_276 => ?_) (fun c_276 => ?_)
  · have h := h.1 c_276
    obtain ⟨x_277, h_x_277⟩ : ∃ z : Int32, z = x3 + 6 := ⟨_, rfl⟩
    have h := h x_277 h_x_277
    refine k_iincw hC (pc := 1891) dL_law_1891 3 rfl ic_6 h_x_277.symm [(3, .int x_277), (0, .ref b), (1, .ref (adr X.G a 0 0)), (2, .ref (adr X.G a 6 0))] (by decide) rfl ?_
    refine k_goto hC (pc := 1894) 18 dL_law_1894 (by decide) ?_
    refine k_sub [(0, .ref b), (1, .ref (adr X.G a 0 0)), (2, .ref (adr X.G a 6 0)), (3, .int x_277)] [1, 2, 3, 0] rfl ?_
    refine k_widen (ce + 2) (sl + 19) (by omega) (by omega) ?_
    exact hK18 _ _ _ h
  · have h := h.2 c_276
    refine k_iconst hC (pc := 1106) (v := 0) dL_law_1106 ic_0 ?_
    exact k_lawret hC (pc := 1107) hR hQ hr hX (by rw [hR] at hce; simp only [room_1] at hce; omega) (by rw [hR] at hsl; simp only [room_1] at hsl; omega) dL_law_1107 h
set_option maxHeartbeats 4000000 in
theorem b_L_law_1108 {X : Kx} {N L b : Nat} {xs : Nat → Int32} {ce sl : Nat} {K18 : Sx → Int32 → Prop}  (hC : Cx X cL_law 4 RL) (hR : X.R = room_1) (hQ : X.Q = lw_Z X.below X.av X.s) (hr : X.meth.sig.returnType = some .boolean) (hX : lw_X X b L xs) (hce : ce + 2 ≤ X.R.cells) (hsl : sl + 19 ≤ X.R.slots) (hK18 : ∀ (a : Ax) (s : Sx) (x3 : Int32), K18 s x3 → wk X a s 4 18 [(0, .ref b), (1, .ref (adr X.G a 0 0)), (2, .ref (adr X.G a 6 0)), (3, .int x3)] [] (ce + 2) (sl + 19)) (a : Ax) (s : Sx) (x3 : Int32) (h : w_L_law_1108 N L xs K18 s x3) : wk X a s 4 1108 [(0, .ref b), (1, .ref (adr X.G a 0 0)), (2, .ref (adr X.G a 6 0)), (3, .int x3)] [] ce sl := by
  unfold w_L_law_1108 at h
  refine k_aload_n hC (pc := 1108) dL_law_1108 1 rfl ?_
  refine k_aload_n hC (pc := 1109) dL_law_1109 0 rfl ?_
  refine k_iload_n hC (pc := 1110) dL_law_1110 3 rfl ?_
  refine k_iconst hC (pc := 1111) (v := 1) dL_law_1111 ic_1 ?_
  refine k_iadd hC (pc := 1112) dL_law_1112 ?_
  obtain ⟨c_279, h⟩ := h
  refine k_sld hC (pc := 1113) hX c_279 dL_law_1113 ?_
  refine k_aload_n hC (pc := 1114) dL_law_1114 0 rfl ?_
  refine k_iload_n hC (pc := 1115) dL_law_1115 3 rfl ?_
  refine k_iconst hC (pc := 1116) (v := 2) dL_law_1116 ic_2 ?_
  refine k_iadd hC (pc := 1117) dL_law_1117 ?_
  obtain ⟨c_280, h⟩ := h
  refine k_sld hC (pc := 1118) hX c_280 dL_law_1118 ?_
  refine k_cl (rn_V hC (pc := 1119) (As := [.int (xs (x3 + 1).toNatClampNeg), .int (xs (x3 + 2).toNatClampNeg)]) (rest := []) ca_X11_told ml_RL_107 im_X11_told se_X11_told (fx_in f0_0) (ob0_0 _ _ _ _ _) rfl rfl (ct_X11_told (xs (x3 + 1).toNatClampNeg) (xs (x3 + 2).toNatClampNeg) h) (by rw [hR]; exact ⟨rfl, rfl, by decide, by decide⟩) rfl (Nat.le_of_ble_eq_true rfl) dL_law_1119 ⟨by omega, by omega⟩) (fun r_282 s_281 h => ?_)
  refine k_aload_n hC (pc := 1122) dL_law_1122 2 rfl ?_
  refine k_aload_n hC (pc := 1123) dL_law_1123 0 rfl ?_
  refine k_iload_n hC (pc := 1124) dL_law_1124 3 rfl ?_
  refine k_iconst hC (pc := 1125) (v := 1) dL_law_1125 ic_1 ?_
  refine k_iadd hC (pc := 1126) dL_law_1126 ?_
  obtain ⟨c_283, h⟩ := h
  refine k_sld hC (pc := 1127) hX c_283 dL_law_1127 ?_
  refine k_aload_n hC (pc := 1128) dL_law_1128 0 rfl ?_
  refine k_iload_n hC (pc := 1129) dL_law_1129 3 rfl ?_
  refine k_iconst hC (pc := 1130) (v := 2) dL_law_1130 ic_2 ?_
  refine k_iadd hC (pc := 1131) dL_law_1131 ?_
  obtain ⟨c_284, h⟩ := h
  refine k_sld hC (pc := 1132) hX c_284 dL_law_1132 ?_
  refine k_cl (rn_V hC (pc := 1133) (As := [.int (xs (x3 + 1).toNatClampNeg), .int (xs (x3 + 2).toNatClampNeg)]) (rest := [.long r_282]) ca_X12_told ml_RL_111 im_X12_told se_X12_told (fx_in f6_0) (ob6_0 _ _ _ _ _) rfl rfl (ct_X12_told (xs (x3 + 1).toNatClampNeg) (xs (x3 + 2).toNatClampNeg) h) (by rw [hR]; exact ⟨rfl, rfl, by decide, by decide⟩) rfl (Nat.le_of_ble_eq_true rfl) dL_law_1133 ⟨by omega, by omega⟩) (fun r_286 s_285 h => ?_)
  refine k_lcmp hC (pc := 1136) dL_law_1136 ?_
  refine k_if_eq hC (pc := 1137) 1891 dL_law_1137 (by decide) (fun c_287 => ?_) (fun c_287 => ?_)
  · have h := h.1 c_287
    obtain ⟨x_288, h_x_288⟩ : ∃ z : Int32, z = x3 + 6 := ⟨_, rfl⟩
    have h := h x_288 h_x_288
    refine k_iincw hC (pc := 1891) dL_law_1891 3 rfl ic_6 h_x_288.symm [(3, .int x_288), (0, .ref b), (1, .ref (adr X.G a 0 0)), (2, .ref (adr X.G a 6 0))] (by decide) rfl ?_
    refine k_goto hC (pc := 1894) 18 dL_law_1894 (by decide) ?_
    refine k_sub [(0, .ref b), (1, .ref (adr X.G a 0 0)), (2, .ref (adr X.G a 6 0)), (3, .int x_288)] [1, 2, 3, 0] rfl ?_
    refine k_widen (ce + 2) (sl + 19) (by omega) (by omega) ?_
    exact hK18 _ _ _ h
  · have h := h.2 c_287
    refine k_iconst hC (pc := 1140) (v := 0) dL_law_1140 ic_0 ?_
    exact k_lawret hC (pc := 1141) hR hQ hr hX (by rw [hR] at hce; simp only [room_1] at hce; omega) (by rw [hR] at hsl; simp only [room_1] at hsl; omega) dL_law_1141 h
set_option maxHeartbeats 4000000 in
theorem b_L_law_1142 {X : Kx} {N L b : Nat} {xs : Nat → Int32} {ce sl : Nat} {K18 : Sx → Int32 → Prop}  (hC : Cx X cL_law 4 RL) (hR : X.R = room_1) (hQ : X.Q = lw_Z X.below X.av X.s) (hr : X.meth.sig.returnType = some .boolean) (hX : lw_X X b L xs) (hce : ce + 2 ≤ X.R.cells) (hsl : sl + 19 ≤ X.R.slots) (hK18 : ∀ (a : Ax) (s : Sx) (x3 : Int32), K18 s x3 → wk X a s 4 18 [(0, .ref b), (1, .ref (adr X.G a 0 0)), (2, .ref (adr X.G a 6 0)), (3, .int x3)] [] (ce + 2) (sl + 19)) (a : Ax) (s : Sx) (x3 : Int32) (h : w_L_law_1142 N L xs K18 s x3) : wk X a s 4 1142 [(0, .ref b), (1, .ref (adr X.G a 0 0)), (2, .ref (adr X.G a 6 0)), (3, .int x3)] [] ce sl := by
  unfold w_L_law_1142 at h
  refine k_aload_n hC (pc := 1142) dL_law_1142 1 rfl ?_
  refine k_aload_n hC (pc := 1143) dL_law_1143 0 rfl ?_
  refine k_iload_n hC (pc := 1144) dL_law_1144 3 rfl ?_
  refine k_iconst hC (pc := 1145) (v := 1) dL_law_1145 ic_1 ?_
  refine k_iadd hC (pc := 1146) dL_law_1146 ?_
  obtain ⟨c_290, h⟩ := h
  refine k_sld hC (pc := 1147) hX c_290 dL_law_1147 ?_
  refine k_ci (rn_V hC (pc := 1148) (As := [.int (xs (x3 + 1).toNatClampNeg)]) (rest := []) ca_X11_grew ml_RL_112 im_X11_grew se_X11_grew (fx_in f0_0) (ob0_0 _ _ _ _ _) rfl rfl (ct_X11_grew (xs (x3 + 1).toNatClampNeg) h) (by rw [hR]; exact ⟨rfl, rfl, by decide, by decide⟩) rfl (Nat.le_of_ble_eq_true rfl) dL_law_1148 ⟨by omega, by omega⟩) (fun r_292 s_291 h => ?_)
  refine k_aload_n hC (pc := 1151) dL_law_1151 2 rfl ?_
  refine k_aload_n hC (pc := 1152) dL_law_1152 0 rfl ?_
  refine k_iload_n hC (pc := 1153) dL_law_1153 3 rfl ?_
  refine k_iconst hC (pc := 1154) (v := 1) dL_law_1154 ic_1 ?_
  refine k_iadd hC (pc := 1155) dL_law_1155 ?_
  obtain ⟨c_293, h⟩ := h
  refine k_sld hC (pc := 1156) hX c_293 dL_law_1156 ?_
  refine k_ci (rn_V hC (pc := 1157) (As := [.int (xs (x3 + 1).toNatClampNeg)]) (rest := [.int r_292]) ca_X12_grew ml_RL_115 im_X12_grew se_X12_grew (fx_in f6_0) (ob6_0 _ _ _ _ _) rfl rfl (ct_X12_grew (xs (x3 + 1).toNatClampNeg) h) (by rw [hR]; exact ⟨rfl, rfl, by decide, by decide⟩) rfl (Nat.le_of_ble_eq_true rfl) dL_law_1157 ⟨by omega, by omega⟩) (fun r_295 s_294 h => ?_)
  refine k_icmp_eq hC (pc := 1160) 1891 dL_law_1160 (by decide) (fun c_296 => ?_) (fun c_296 => ?_)
  · have h := h.1 c_296
    obtain ⟨x_297, h_x_297⟩ : ∃ z : Int32, z = x3 + 6 := ⟨_, rfl⟩
    have h := h x_297 h_x_297
    refine k_iincw hC (pc := 1891) dL_law_1891 3 rfl ic_6 h_x_297.symm [(3, .int x_297), (0, .ref b), (1, .ref (adr X.G a 0 0)), (2, .ref (adr X.G a 6 0))] (by decide) rfl ?_
    refine k_goto hC (pc := 1894) 18 dL_law_1894 (by decide) ?_
    refine k_sub [(0, .ref b), (1, .ref (adr X.G a 0 0)), (2, .ref (adr X.G a 6 0)), (3, .int x_297)] [1, 2, 3, 0] rfl ?_
    refine k_widen (ce + 2) (sl + 19) (by omega) (by omega) ?_
    exact hK18 _ _ _ h
  · have h := h.2 c_296
    refine k_iconst hC (pc := 1163) (v := 0) dL_law_1163 ic_0 ?_
    exact k_lawret hC (pc := 1164) hR hQ hr hX (by rw [hR] at hce; simp only [room_1] at hce; omega) (by rw [hR] at hsl; simp only [room_1] at hsl; omega) dL_law_1164 h
set_option maxHeartbeats 4000000 in
theorem b_L_law_1165 {X : Kx} {N L b : Nat} {xs : Nat → Int32} {ce sl : Nat} {K18 : Sx → Int32 → Prop}  (hC : Cx X cL_law 4 RL) (hR : X.R = room_1) (hQ : X.Q = lw_Z X.below X.av X.s) (hr : X.meth.sig.returnType = some .boolean) (hX : lw_X X b L xs) (hce : ce + 2 ≤ X.R.cells) (hsl : sl + 19 ≤ X.R.slots) (hK18 : ∀ (a : Ax) (s : Sx) (x3 : Int32), K18 s x3 → wk X a s 4 18 [(0, .ref b), (1, .ref (adr X.G a 0 0)), (2, .ref (adr X.G a 6 0)), (3, .int x3)] [] (ce + 2) (sl + 19)) (a : Ax) (s : Sx) (x3 : Int32) (h : w_L_law_1165 N L xs K18 s x3) : wk X a s 4 1165 [(0, .ref b), (1, .ref (adr X.G a 0 0)), (2, .ref (adr X.G a 6 0)), (3, .int x3)] [] ce sl := by
  unfold w_L_law_1165 at h
  refine k_aload_n hC (pc := 1165) dL_law_1165 1 rfl ?_
  refine k_aload_n hC (pc := 1166) dL_law_1166 0 rfl ?_
  refine k_iload_n hC (pc := 1167) dL_law_1167 3 rfl ?_
  refine k_iconst hC (pc := 1168) (v := 1) dL_law_1168 ic_1 ?_
  refine k_iadd hC (pc := 1169) dL_law_1169 ?_
  obtain ⟨c_299, h⟩ := h
  refine k_sld hC (pc := 1170) hX c_299 dL_law_1170 ?_
  refine k_aload_n hC (pc := 1171) dL_law_1171 0 rfl ?_
  refine k_iload_n hC (pc := 1172) dL_law_1172 3 rfl ?_
  refine k_iconst hC (pc := 1173) (v := 2) dL_law_1173 ic_2 ?_
  refine k_iadd hC (pc := 1174) dL_law_1174 ?_
  obtain ⟨c_300, h⟩ := h
  refine k_sld hC (pc := 1175) hX c_300 dL_law_1175 ?_
  refine k_aload_n hC (pc := 1176) dL_law_1176 0 rfl ?_
  refine k_iload_n hC (pc := 1177) dL_law_1177 3 rfl ?_
  refine k_iconst hC (pc := 1178) (v := 3) dL_law_1178 ic_3 ?_
  refine k_iadd hC (pc := 1179) dL_law_1179 ?_
  obtain ⟨c_301, h⟩ := h
  refine k_sld hC (pc := 1180) hX c_301 dL_law_1180 ?_
  refine k_aload_n hC (pc := 1181) dL_law_1181 0 rfl ?_
  refine k_iload_n hC (pc := 1182) dL_law_1182 3 rfl ?_
  refine k_iconst hC (pc := 1183) (v := 4) dL_law_1183 ic_4 ?_
  refine k_iadd hC (pc := 1184) dL_law_1184 ?_
  obtain ⟨c_302, h⟩ := h
  refine k_sld hC (pc := 1185) hX c_302 dL_law_1185 ?_
  refine k_ci (rn_V hC (pc := 1186) (As := [.int (xs (x3 + 1).toNatClampNeg), .int (xs (x3 + 2).toNatClampNeg), .int (xs (x3 + 3).toNatClampNeg), .int (xs (x3 + 4).toNatClampNeg)]) (rest := []) ca_X11_stand ml_RL_116 im_X11_stand se_X11_stand (fx_in f0_0) (ob0_0 _ _ _ _ _) rfl rfl (ct_X11_stand (xs (x3 + 1).toNatClampNeg) (xs (x3 + 2).toNatClampNeg) (xs (x3 + 3).toNatClampNeg) (xs (x3 + 4).toNatClampNeg) h) (by rw [hR]; exact ⟨rfl, rfl, by decide, by decide⟩) rfl (Nat.le_of_ble_eq_true rfl) dL_law_1186 ⟨by omega, by omega⟩) (fun r_304 s_303 h => ?_)
  refine k_aload_n hC (pc := 1189) dL_law_1189 2 rfl ?_
  refine k_aload_n hC (pc := 1190) dL_law_1190 0 rfl ?_
  refine k_iload_n hC (pc := 1191) dL_law_1191 3 rfl ?_
  refine k_iconst hC (pc := 1192) (v := 1) dL_law_1192 ic_1 ?_
  refine k_iadd hC (pc := 1193) dL_law_1193 ?_
  obtain ⟨c_305, h⟩ := h
  refine k_sld hC (pc := 1194) hX c_305 dL_law_1194 ?_
  refine k_aload_n hC (pc := 1195) dL_law_1195 0 rfl ?_
  refine k_iload_n hC (pc := 1196) dL_law_1196 3 rfl ?_
  refine k_iconst hC (pc := 1197) (v := 2) dL_law_1197 ic_2 ?_
  refine k_iadd hC (pc := 1198) dL_law_1198 ?_
  obtain ⟨c_306, h⟩ := h
  refine k_sld hC (pc := 1199) hX c_306 dL_law_1199 ?_
  refine k_aload_n hC (pc := 1200) dL_law_1200 0 rfl ?_
  refine k_iload_n hC (pc := 1201) dL_law_1201 3 rfl ?_
  refine k_iconst hC (pc := 1202) (v := 3) dL_law_1202 ic_3 ?_
  refine k_iadd hC (pc := 1203) dL_law_1203 ?_
  obtain ⟨c_307, h⟩ := h
  refine k_sld hC (pc := 1204) hX c_307 dL_law_1204 ?_
  refine k_aload_n hC (pc := 1205) dL_law_1205 0 rfl ?_
  refine k_iload_n hC (pc := 1206) dL_law_1206 3 rfl ?_
  refine k_iconst hC (pc := 1207) (v := 4) dL_law_1207 ic_4 ?_
  refine k_iadd hC (pc := 1208) dL_law_1208 ?_
  obtain ⟨c_308, h⟩ := h
  refine k_sld hC (pc := 1209) hX c_308 dL_law_1209 ?_
  refine k_ci (rn_V hC (pc := 1210) (As := [.int (xs (x3 + 1).toNatClampNeg), .int (xs (x3 + 2).toNatClampNeg), .int (xs (x3 + 3).toNatClampNeg), .int (xs (x3 + 4).toNatClampNeg)]) (rest := [.int r_304]) ca_X12_stand ml_RL_119 im_X12_stand se_X12_stand (fx_in f6_0) (ob6_0 _ _ _ _ _) rfl rfl (ct_X12_stand (xs (x3 + 1).toNatClampNeg) (xs (x3 + 2).toNatClampNeg) (xs (x3 + 3).toNatClampNeg) (xs (x3 + 4).toNatClampNeg) h) (by rw [hR]; exact ⟨rfl, rfl, by decide, by decide⟩) rfl (Nat.le_of_ble_eq_true rfl) dL_law_1210 ⟨by omega, by omega⟩) (fun r_310 s_309 h => ?_)
  refine k_icmp_eq hC (pc := 1213) 1891 dL_law_1213 (by decide) (fun c_311 => ?_) (fun c_311 => ?_)
  · have h := h.1 c_311
    obtain ⟨x_312, h_x_312⟩ : ∃ z : Int32, z = x3 + 6 := ⟨_, rfl⟩
    have h := h x_312 h_x_312
    refine k_iincw hC (pc := 1891) dL_law_1891 3 rfl ic_6 h_x_312.symm [(3, .int x_312), (0, .ref b), (1, .ref (adr X.G a 0 0)), (2, .ref (adr X.G a 6 0))] (by decide) rfl ?_
    refine k_goto hC (pc := 1894) 18 dL_law_1894 (by decide) ?_
    refine k_sub [(0, .ref b), (1, .ref (adr X.G a 0 0)), (2, .ref (adr X.G a 6 0)), (3, .int x_312)] [1, 2, 3, 0] rfl ?_
    refine k_widen (ce + 2) (sl + 19) (by omega) (by omega) ?_
    exact hK18 _ _ _ h
  · have h := h.2 c_311
    refine k_iconst hC (pc := 1216) (v := 0) dL_law_1216 ic_0 ?_
    exact k_lawret hC (pc := 1217) hR hQ hr hX (by rw [hR] at hce; simp only [room_1] at hce; omega) (by rw [hR] at hsl; simp only [room_1] at hsl; omega) dL_law_1217 h
set_option maxHeartbeats 4000000 in
theorem b_L_law_1218 {X : Kx} {N L b : Nat} {xs : Nat → Int32} {ce sl : Nat} {K18 : Sx → Int32 → Prop}  (hC : Cx X cL_law 4 RL) (hR : X.R = room_1) (hQ : X.Q = lw_Z X.below X.av X.s) (hr : X.meth.sig.returnType = some .boolean) (hX : lw_X X b L xs) (hce : ce + 2 ≤ X.R.cells) (hsl : sl + 19 ≤ X.R.slots) (hK18 : ∀ (a : Ax) (s : Sx) (x3 : Int32), K18 s x3 → wk X a s 4 18 [(0, .ref b), (1, .ref (adr X.G a 0 0)), (2, .ref (adr X.G a 6 0)), (3, .int x3)] [] (ce + 2) (sl + 19)) (a : Ax) (s : Sx) (x3 : Int32) (h : w_L_law_1218 N L xs K18 s x3) : wk X a s 4 1218 [(0, .ref b), (1, .ref (adr X.G a 0 0)), (2, .ref (adr X.G a 6 0)), (3, .int x3)] [] ce sl := by
  unfold w_L_law_1218 at h
  refine k_aload_n hC (pc := 1218) dL_law_1218 1 rfl ?_
  refine k_aload_n hC (pc := 1219) dL_law_1219 0 rfl ?_
  refine k_iload_n hC (pc := 1220) dL_law_1220 3 rfl ?_
  refine k_iconst hC (pc := 1221) (v := 1) dL_law_1221 ic_1 ?_
  refine k_iadd hC (pc := 1222) dL_law_1222 ?_
  obtain ⟨c_314, h⟩ := h
  refine k_sld hC (pc := 1223) hX c_314 dL_law_1223 ?_
  refine k_aload_n hC (pc := 1224) dL_law_1224 0 rfl ?_
  refine k_iload_n hC (pc := 1225) dL_law_1225 3 rfl ?_
  refine k_iconst hC (pc := 1226) (v := 2) dL_law_1226 ic_2 ?_
  refine k_iadd hC (pc := 1227) dL_law_1227 ?_
  obtain ⟨c_315, h⟩ := h
  refine k_sld hC (pc := 1228) hX c_315 dL_law_1228 ?_
  refine k_ci (rn_V hC (pc := 1229) (As := [.int (xs (x3 + 1).toNatClampNeg), .int (xs (x3 + 2).toNatClampNeg)]) (rest := []) ca_X11_live ml_RL_120 im_X11_live se_X11_live (fx_in f0_0) (ob0_0 _ _ _ _ _) rfl rfl (ct_X11_live (xs (x3 + 1).toNatClampNeg) (xs (x3 + 2).toNatClampNeg) h) (by rw [hR]; exact ⟨rfl, rfl, by decide, by decide⟩) rfl (Nat.le_of_ble_eq_true rfl) dL_law_1229 ⟨by omega, by omega⟩) (fun r_317 s_316 h => ?_)
  refine k_aload_n hC (pc := 1232) dL_law_1232 2 rfl ?_
  refine k_aload_n hC (pc := 1233) dL_law_1233 0 rfl ?_
  refine k_iload_n hC (pc := 1234) dL_law_1234 3 rfl ?_
  refine k_iconst hC (pc := 1235) (v := 1) dL_law_1235 ic_1 ?_
  refine k_iadd hC (pc := 1236) dL_law_1236 ?_
  obtain ⟨c_318, h⟩ := h
  refine k_sld hC (pc := 1237) hX c_318 dL_law_1237 ?_
  refine k_aload_n hC (pc := 1238) dL_law_1238 0 rfl ?_
  refine k_iload_n hC (pc := 1239) dL_law_1239 3 rfl ?_
  refine k_iconst hC (pc := 1240) (v := 2) dL_law_1240 ic_2 ?_
  refine k_iadd hC (pc := 1241) dL_law_1241 ?_
  obtain ⟨c_319, h⟩ := h
  refine k_sld hC (pc := 1242) hX c_319 dL_law_1242 ?_
  refine k_ci (rn_V hC (pc := 1243) (As := [.int (xs (x3 + 1).toNatClampNeg), .int (xs (x3 + 2).toNatClampNeg)]) (rest := [.int r_317]) ca_X12_live ml_RL_123 im_X12_live se_X12_live (fx_in f6_0) (ob6_0 _ _ _ _ _) rfl rfl (ct_X12_live (xs (x3 + 1).toNatClampNeg) (xs (x3 + 2).toNatClampNeg) h) (by rw [hR]; exact ⟨rfl, rfl, by decide, by decide⟩) rfl (Nat.le_of_ble_eq_true rfl) dL_law_1243 ⟨by omega, by omega⟩) (fun r_321 s_320 h => ?_)
  refine k_icmp_eq hC (pc := 1246) 1891 dL_law_1246 (by decide) (fun c_322 => ?_) (fun c_322 => ?_)
  · have h := h.1 c_322
    obtain ⟨x_323, h_x_323⟩ : ∃ z : Int32, z = x3 + 6 := ⟨_, rfl⟩
    have h := h x_323 h_x_323
    refine k_iincw hC (pc := 1891) dL_law_1891 3 rfl ic_6 h_x_323.symm [(3, .int x_323), (0, .ref b), (1, .ref (adr X.G a 0 0)), (2, .ref (adr X.G a 6 0))] (by decide) rfl ?_
    refine k_goto hC (pc := 1894) 18 dL_law_1894 (by decide) ?_
    refine k_sub [(0, .ref b), (1, .ref (adr X.G a 0 0)), (2, .ref (adr X.G a 6 0)), (3, .int x_323)] [1, 2, 3, 0] rfl ?_
    refine k_widen (ce + 2) (sl + 19) (by omega) (by omega) ?_
    exact hK18 _ _ _ h
  · have h := h.2 c_322
    refine k_iconst hC (pc := 1249) (v := 0) dL_law_1249 ic_0 ?_
    exact k_lawret hC (pc := 1250) hR hQ hr hX (by rw [hR] at hce; simp only [room_1] at hce; omega) (by rw [hR] at hsl; simp only [room_1] at hsl; omega) dL_law_1250 h
set_option maxHeartbeats 4000000 in
theorem b_L_law_1251 {X : Kx} {N L b : Nat} {xs : Nat → Int32} {ce sl : Nat} {K18 : Sx → Int32 → Prop}  (hC : Cx X cL_law 4 RL) (hR : X.R = room_1) (hQ : X.Q = lw_Z X.below X.av X.s) (hr : X.meth.sig.returnType = some .boolean) (hX : lw_X X b L xs) (hce : ce + 2 ≤ X.R.cells) (hsl : sl + 19 ≤ X.R.slots) (hK18 : ∀ (a : Ax) (s : Sx) (x3 : Int32), K18 s x3 → wk X a s 4 18 [(0, .ref b), (1, .ref (adr X.G a 0 0)), (2, .ref (adr X.G a 6 0)), (3, .int x3)] [] (ce + 2) (sl + 19)) (a : Ax) (s : Sx) (x3 : Int32) (h : w_L_law_1251 N L xs K18 s x3) : wk X a s 4 1251 [(0, .ref b), (1, .ref (adr X.G a 0 0)), (2, .ref (adr X.G a 6 0)), (3, .int x3)] [] ce sl := by
  unfold w_L_law_1251 at h
  refine k_aload_n hC (pc := 1251) dL_law_1251 1 rfl ?_
  refine k_aload_n hC (pc := 1252) dL_law_1252 0 rfl ?_
  refine k_iload_n hC (pc := 1253) dL_law_1253 3 rfl ?_
  refine k_iconst hC (pc := 1254) (v := 1) dL_law_1254 ic_1 ?_
  refine k_iadd hC (pc := 1255) dL_law_1255 ?_
  obtain ⟨c_325, h⟩ := h
  refine k_sld hC (pc := 1256) hX c_325 dL_law_1256 ?_
  refine k_aload_n hC (pc := 1257) dL_law_1257 0 rfl ?_
  refine k_iload_n hC (pc := 1258) dL_law_1258 3 rfl ?_
  refine k_iconst hC (pc := 1259) (v := 2) dL_law_1259 ic_2 ?_
  refine k_iadd hC (pc := 1260) dL_law_1260 ?_
  obtain ⟨c_326, h⟩ := h
  refine k_sld hC (pc := 1261) hX c_326 dL_law_1261 ?_
  refine k_cl (rn_V hC (pc := 1262) (As := [.int (xs (x3 + 1).toNatClampNeg), .int (xs (x3 + 2).toNatClampNeg)]) (rest := []) ca_X11_forest ml_RL_124 im_X11_forest se_X11_forest (fx_in f0_0) (ob0_0 _ _ _ _ _) rfl rfl (ct_X11_forest (xs (x3 + 1).toNatClampNeg) (xs (x3 + 2).toNatClampNeg) h) (by rw [hR]; exact ⟨rfl, rfl, by decide, by decide⟩) rfl (Nat.le_of_ble_eq_true rfl) dL_law_1262 ⟨by omega, by omega⟩) (fun r_328 s_327 h => ?_)
  refine k_aload_n hC (pc := 1265) dL_law_1265 2 rfl ?_
  refine k_aload_n hC (pc := 1266) dL_law_1266 0 rfl ?_
  refine k_iload_n hC (pc := 1267) dL_law_1267 3 rfl ?_
  refine k_iconst hC (pc := 1268) (v := 1) dL_law_1268 ic_1 ?_
  refine k_iadd hC (pc := 1269) dL_law_1269 ?_
  obtain ⟨c_329, h⟩ := h
  refine k_sld hC (pc := 1270) hX c_329 dL_law_1270 ?_
  refine k_aload_n hC (pc := 1271) dL_law_1271 0 rfl ?_
  refine k_iload_n hC (pc := 1272) dL_law_1272 3 rfl ?_
  refine k_iconst hC (pc := 1273) (v := 2) dL_law_1273 ic_2 ?_
  refine k_iadd hC (pc := 1274) dL_law_1274 ?_
  obtain ⟨c_330, h⟩ := h
  refine k_sld hC (pc := 1275) hX c_330 dL_law_1275 ?_
  refine k_cl (rn_V hC (pc := 1276) (As := [.int (xs (x3 + 1).toNatClampNeg), .int (xs (x3 + 2).toNatClampNeg)]) (rest := [.long r_328]) ca_X12_forest ml_RL_127 im_X12_forest se_X12_forest (fx_in f6_0) (ob6_0 _ _ _ _ _) rfl rfl (ct_X12_forest (xs (x3 + 1).toNatClampNeg) (xs (x3 + 2).toNatClampNeg) h) (by rw [hR]; exact ⟨rfl, rfl, by decide, by decide⟩) rfl (Nat.le_of_ble_eq_true rfl) dL_law_1276 ⟨by omega, by omega⟩) (fun r_332 s_331 h => ?_)
  refine k_lcmp hC (pc := 1279) dL_law_1279 ?_
  refine k_if_eq hC (pc := 1280) 1891 dL_law_1280 (by decide) (fun c_333 => ?_) (fun c_333 => ?_)
  · have h := h.1 c_333
    obtain ⟨x_334, h_x_334⟩ : ∃ z : Int32, z = x3 + 6 := ⟨_, rfl⟩
    have h := h x_334 h_x_334
    refine k_iincw hC (pc := 1891) dL_law_1891 3 rfl ic_6 h_x_334.symm [(3, .int x_334), (0, .ref b), (1, .ref (adr X.G a 0 0)), (2, .ref (adr X.G a 6 0))] (by decide) rfl ?_
    refine k_goto hC (pc := 1894) 18 dL_law_1894 (by decide) ?_
    refine k_sub [(0, .ref b), (1, .ref (adr X.G a 0 0)), (2, .ref (adr X.G a 6 0)), (3, .int x_334)] [1, 2, 3, 0] rfl ?_
    refine k_widen (ce + 2) (sl + 19) (by omega) (by omega) ?_
    exact hK18 _ _ _ h
  · have h := h.2 c_333
    refine k_iconst hC (pc := 1283) (v := 0) dL_law_1283 ic_0 ?_
    exact k_lawret hC (pc := 1284) hR hQ hr hX (by rw [hR] at hce; simp only [room_1] at hce; omega) (by rw [hR] at hsl; simp only [room_1] at hsl; omega) dL_law_1284 h
set_option maxHeartbeats 4000000 in
theorem b_L_law_1285 {X : Kx} {N L b : Nat} {xs : Nat → Int32} {ce sl : Nat} {K18 : Sx → Int32 → Prop}  (hC : Cx X cL_law 4 RL) (hR : X.R = room_1) (hQ : X.Q = lw_Z X.below X.av X.s) (hr : X.meth.sig.returnType = some .boolean) (hX : lw_X X b L xs) (hce : ce + 2 ≤ X.R.cells) (hsl : sl + 19 ≤ X.R.slots) (hK18 : ∀ (a : Ax) (s : Sx) (x3 : Int32), K18 s x3 → wk X a s 4 18 [(0, .ref b), (1, .ref (adr X.G a 0 0)), (2, .ref (adr X.G a 6 0)), (3, .int x3)] [] (ce + 2) (sl + 19)) (a : Ax) (s : Sx) (x3 : Int32) (h : w_L_law_1285 N L xs K18 s x3) : wk X a s 4 1285 [(0, .ref b), (1, .ref (adr X.G a 0 0)), (2, .ref (adr X.G a 6 0)), (3, .int x3)] [] ce sl := by
  unfold w_L_law_1285 at h
  refine k_aload_n hC (pc := 1285) dL_law_1285 1 rfl ?_
  refine k_aload_n hC (pc := 1286) dL_law_1286 0 rfl ?_
  refine k_iload_n hC (pc := 1287) dL_law_1287 3 rfl ?_
  refine k_iconst hC (pc := 1288) (v := 1) dL_law_1288 ic_1 ?_
  refine k_iadd hC (pc := 1289) dL_law_1289 ?_
  obtain ⟨c_336, h⟩ := h
  refine k_sld hC (pc := 1290) hX c_336 dL_law_1290 ?_
  refine k_aload_n hC (pc := 1291) dL_law_1291 0 rfl ?_
  refine k_iload_n hC (pc := 1292) dL_law_1292 3 rfl ?_
  refine k_iconst hC (pc := 1293) (v := 2) dL_law_1293 ic_2 ?_
  refine k_iadd hC (pc := 1294) dL_law_1294 ?_
  obtain ⟨c_337, h⟩ := h
  refine k_sld hC (pc := 1295) hX c_337 dL_law_1295 ?_
  refine k_aload_n hC (pc := 1296) dL_law_1296 0 rfl ?_
  refine k_iload_n hC (pc := 1297) dL_law_1297 3 rfl ?_
  refine k_iconst hC (pc := 1298) (v := 3) dL_law_1298 ic_3 ?_
  refine k_iadd hC (pc := 1299) dL_law_1299 ?_
  obtain ⟨c_338, h⟩ := h
  refine k_sld hC (pc := 1300) hX c_338 dL_law_1300 ?_
  refine k_aload_n hC (pc := 1301) dL_law_1301 0 rfl ?_
  refine k_iload_n hC (pc := 1302) dL_law_1302 3 rfl ?_
  refine k_iconst hC (pc := 1303) (v := 4) dL_law_1303 ic_4 ?_
  refine k_iadd hC (pc := 1304) dL_law_1304 ?_
  obtain ⟨c_339, h⟩ := h
  refine k_sld hC (pc := 1305) hX c_339 dL_law_1305 ?_
  refine k_ci (rn_V hC (pc := 1306) (As := [.int (xs (x3 + 1).toNatClampNeg), .int (xs (x3 + 2).toNatClampNeg), .int (xs (x3 + 3).toNatClampNeg), .int (xs (x3 + 4).toNatClampNeg)]) (rest := []) ca_X11_fire ml_RL_128 im_X11_fire se_X11_fire (fx_in f0_0) (ob0_0 _ _ _ _ _) rfl rfl (ct_X11_fire (xs (x3 + 1).toNatClampNeg) (xs (x3 + 2).toNatClampNeg) (xs (x3 + 3).toNatClampNeg) (xs (x3 + 4).toNatClampNeg) h) (by rw [hR]; exact ⟨rfl, rfl, by decide, by decide⟩) rfl (Nat.le_of_ble_eq_true rfl) dL_law_1306 ⟨by omega, by omega⟩) (fun r_341 s_340 h => ?_)
  refine k_aload_n hC (pc := 1309) dL_law_1309 2 rfl ?_
  refine k_aload_n hC (pc := 1310) dL_law_1310 0 rfl ?_
  refine k_iload_n hC (pc := 1311) dL_law_1311 3 rfl ?_
  refine k_iconst hC (pc := 1312) (v := 1) dL_law_1312 ic_1 ?_
  refine k_iadd hC (pc := 1313) dL_law_1313 ?_
  obtain ⟨c_342, h⟩ := h
  refine k_sld hC (pc := 1314) hX c_342 dL_law_1314 ?_
  refine k_aload_n hC (pc := 1315) dL_law_1315 0 rfl ?_
  refine k_iload_n hC (pc := 1316) dL_law_1316 3 rfl ?_
  refine k_iconst hC (pc := 1317) (v := 2) dL_law_1317 ic_2 ?_
  refine k_iadd hC (pc := 1318) dL_law_1318 ?_
  obtain ⟨c_343, h⟩ := h
  refine k_sld hC (pc := 1319) hX c_343 dL_law_1319 ?_
  refine k_aload_n hC (pc := 1320) dL_law_1320 0 rfl ?_
  refine k_iload_n hC (pc := 1321) dL_law_1321 3 rfl ?_
  refine k_iconst hC (pc := 1322) (v := 3) dL_law_1322 ic_3 ?_
  refine k_iadd hC (pc := 1323) dL_law_1323 ?_
  obtain ⟨c_344, h⟩ := h
  refine k_sld hC (pc := 1324) hX c_344 dL_law_1324 ?_
  refine k_aload_n hC (pc := 1325) dL_law_1325 0 rfl ?_
  refine k_iload_n hC (pc := 1326) dL_law_1326 3 rfl ?_
  refine k_iconst hC (pc := 1327) (v := 4) dL_law_1327 ic_4 ?_
  refine k_iadd hC (pc := 1328) dL_law_1328 ?_
  obtain ⟨c_345, h⟩ := h
  refine k_sld hC (pc := 1329) hX c_345 dL_law_1329 ?_
  refine k_ci (rn_V hC (pc := 1330) (As := [.int (xs (x3 + 1).toNatClampNeg), .int (xs (x3 + 2).toNatClampNeg), .int (xs (x3 + 3).toNatClampNeg), .int (xs (x3 + 4).toNatClampNeg)]) (rest := [.int r_341]) ca_X12_fire ml_RL_131 im_X12_fire se_X12_fire (fx_in f6_0) (ob6_0 _ _ _ _ _) rfl rfl (ct_X12_fire (xs (x3 + 1).toNatClampNeg) (xs (x3 + 2).toNatClampNeg) (xs (x3 + 3).toNatClampNeg) (xs (x3 + 4).toNatClampNeg) h) (by rw [hR]; exact ⟨rfl, rfl, by decide, by decide⟩) rfl (Nat.le_of_ble_eq_true rfl) dL_law_1330 ⟨by omega, by omega⟩) (fun r_347 s_346 h => ?_)
  refine k_icmp_eq hC (pc := 1333) 1891 dL_law_1333 (by decide) (fun c_348 => ?_) (fun c_348 => ?_)
  · have h := h.1 c_348
    obtain ⟨x_349, h_x_349⟩ : ∃ z : Int32, z = x3 + 6 := ⟨_, rfl⟩
    have h := h x_349 h_x_349
    refine k_iincw hC (pc := 1891) dL_law_1891 3 rfl ic_6 h_x_349.symm [(3, .int x_349), (0, .ref b), (1, .ref (adr X.G a 0 0)), (2, .ref (adr X.G a 6 0))] (by decide) rfl ?_
    refine k_goto hC (pc := 1894) 18 dL_law_1894 (by decide) ?_
    refine k_sub [(0, .ref b), (1, .ref (adr X.G a 0 0)), (2, .ref (adr X.G a 6 0)), (3, .int x_349)] [1, 2, 3, 0] rfl ?_
    refine k_widen (ce + 2) (sl + 19) (by omega) (by omega) ?_
    exact hK18 _ _ _ h
  · have h := h.2 c_348
    refine k_iconst hC (pc := 1336) (v := 0) dL_law_1336 ic_0 ?_
    exact k_lawret hC (pc := 1337) hR hQ hr hX (by rw [hR] at hce; simp only [room_1] at hce; omega) (by rw [hR] at hsl; simp only [room_1] at hsl; omega) dL_law_1337 h
set_option maxHeartbeats 4000000 in
theorem b_L_law_1338 {X : Kx} {N L b : Nat} {xs : Nat → Int32} {ce sl : Nat} {K18 : Sx → Int32 → Prop}  (hC : Cx X cL_law 4 RL) (hR : X.R = room_1) (hQ : X.Q = lw_Z X.below X.av X.s) (hr : X.meth.sig.returnType = some .boolean) (hX : lw_X X b L xs) (hce : ce + 2 ≤ X.R.cells) (hsl : sl + 19 ≤ X.R.slots) (hK18 : ∀ (a : Ax) (s : Sx) (x3 : Int32), K18 s x3 → wk X a s 4 18 [(0, .ref b), (1, .ref (adr X.G a 0 0)), (2, .ref (adr X.G a 6 0)), (3, .int x3)] [] (ce + 2) (sl + 19)) (a : Ax) (s : Sx) (x3 : Int32) (h : w_L_law_1338 N L xs K18 s x3) : wk X a s 4 1338 [(0, .ref b), (1, .ref (adr X.G a 0 0)), (2, .ref (adr X.G a 6 0)), (3, .int x3)] [] ce sl := by
  unfold w_L_law_1338 at h
  refine k_aload_n hC (pc := 1338) dL_law_1338 1 rfl ?_
  refine k_aload_n hC (pc := 1339) dL_law_1339 0 rfl ?_
  refine k_iload_n hC (pc := 1340) dL_law_1340 3 rfl ?_
  refine k_iconst hC (pc := 1341) (v := 1) dL_law_1341 ic_1 ?_
  refine k_iadd hC (pc := 1342) dL_law_1342 ?_
  obtain ⟨c_351, h⟩ := h
  refine k_sld hC (pc := 1343) hX c_351 dL_law_1343 ?_
  refine k_aload_n hC (pc := 1344) dL_law_1344 0 rfl ?_
  refine k_iload_n hC (pc := 1345) dL_law_1345 3 rfl ?_
  refine k_iconst hC (pc := 1346) (v := 2) dL_law_1346 ic_2 ?_
  refine k_iadd hC (pc := 1347) dL_law_1347 ?_
  obtain ⟨c_352, h⟩ := h
  refine k_sld hC (pc := 1348) hX c_352 dL_law_1348 ?_
  refine k_ci (rn_V hC (pc := 1349) (As := [.int (xs (x3 + 1).toNatClampNeg), .int (xs (x3 + 2).toNatClampNeg)]) (rest := []) ca_X11_crew ml_RL_132 im_X11_crew se_X11_crew (fx_in f0_0) (ob0_0 _ _ _ _ _) rfl rfl (ct_X11_crew (xs (x3 + 1).toNatClampNeg) (xs (x3 + 2).toNatClampNeg) h) (by rw [hR]; exact ⟨rfl, rfl, by decide, by decide⟩) rfl (Nat.le_of_ble_eq_true rfl) dL_law_1349 ⟨by omega, by omega⟩) (fun r_354 s_353 h => ?_)
  refine k_aload_n hC (pc := 1352) dL_law_1352 2 rfl ?_
  refine k_aload_n hC (pc := 1353) dL_law_1353 0 rfl ?_
  refine k_iload_n hC (pc := 1354) dL_law_1354 3 rfl ?_
  refine k_iconst hC (pc := 1355) (v := 1) dL_law_1355 ic_1 ?_
  refine k_iadd hC (pc := 1356) dL_law_1356 ?_
  obtain ⟨c_355, h⟩ := h
  refine k_sld hC (pc := 1357) hX c_355 dL_law_1357 ?_
  refine k_aload_n hC (pc := 1358) dL_law_1358 0 rfl ?_
  refine k_iload_n hC (pc := 1359) dL_law_1359 3 rfl ?_
  refine k_iconst hC (pc := 1360) (v := 2) dL_law_1360 ic_2 ?_
  refine k_iadd hC (pc := 1361) dL_law_1361 ?_
  obtain ⟨c_356, h⟩ := h
  refine k_sld hC (pc := 1362) hX c_356 dL_law_1362 ?_
  refine k_ci (rn_V hC (pc := 1363) (As := [.int (xs (x3 + 1).toNatClampNeg), .int (xs (x3 + 2).toNatClampNeg)]) (rest := [.int r_354]) ca_X12_crew ml_RL_135 im_X12_crew se_X12_crew (fx_in f6_0) (ob6_0 _ _ _ _ _) rfl rfl (ct_X12_crew (xs (x3 + 1).toNatClampNeg) (xs (x3 + 2).toNatClampNeg) h) (by rw [hR]; exact ⟨rfl, rfl, by decide, by decide⟩) rfl (Nat.le_of_ble_eq_true rfl) dL_law_1363 ⟨by omega, by omega⟩) (fun r_358 s_357 h => ?_)
  refine k_icmp_eq hC (pc := 1366) 1891 dL_law_1366 (by decide) (fun c_359 => ?_) (fun c_359 => ?_)
  · have h := h.1 c_359
    obtain ⟨x_360, h_x_360⟩ : ∃ z : Int32, z = x3 + 6 := ⟨_, rfl⟩
    have h := h x_360 h_x_360
    refine k_iincw hC (pc := 1891) dL_law_1891 3 rfl ic_6 h_x_360.symm [(3, .int x_360), (0, .ref b), (1, .ref (adr X.G a 0 0)), (2, .ref (adr X.G a 6 0))] (by decide) rfl ?_
    refine k_goto hC (pc := 1894) 18 dL_law_1894 (by decide) ?_
    refine k_sub [(0, .ref b), (1, .ref (adr X.G a 0 0)), (2, .ref (adr X.G a 6 0)), (3, .int x_360)] [1, 2, 3, 0] rfl ?_
    refine k_widen (ce + 2) (sl + 19) (by omega) (by omega) ?_
    exact hK18 _ _ _ h
  · have h := h.2 c_359
    refine k_iconst hC (pc := 1369) (v := 0) dL_law_1369 ic_0 ?_
    exact k_lawret hC (pc := 1370) hR hQ hr hX (by rw [hR] at hce; simp only [room_1] at hce; omega) (by rw [hR] at hsl; simp only [room_1] at hsl; omega) dL_law_1370 h
set_option maxHeartbeats 4000000 in
theorem b_L_law_1371 {X : Kx} {N L b : Nat} {xs : Nat → Int32} {ce sl : Nat} {K18 : Sx → Int32 → Prop}  (hC : Cx X cL_law 4 RL) (hR : X.R = room_1) (hQ : X.Q = lw_Z X.below X.av X.s) (hr : X.meth.sig.returnType = some .boolean) (hX : lw_X X b L xs) (hce : ce + 2 ≤ X.R.cells) (hsl : sl + 19 ≤ X.R.slots) (hK18 : ∀ (a : Ax) (s : Sx) (x3 : Int32), K18 s x3 → wk X a s 4 18 [(0, .ref b), (1, .ref (adr X.G a 0 0)), (2, .ref (adr X.G a 6 0)), (3, .int x3)] [] (ce + 2) (sl + 19)) (a : Ax) (s : Sx) (x3 : Int32) (h : w_L_law_1371 N L xs K18 s x3) : wk X a s 4 1371 [(0, .ref b), (1, .ref (adr X.G a 0 0)), (2, .ref (adr X.G a 6 0)), (3, .int x3)] [] ce sl := by
  unfold w_L_law_1371 at h
  refine k_aload_n hC (pc := 1371) dL_law_1371 1 rfl ?_
  refine k_aload_n hC (pc := 1372) dL_law_1372 0 rfl ?_
  refine k_iload_n hC (pc := 1373) dL_law_1373 3 rfl ?_
  refine k_iconst hC (pc := 1374) (v := 1) dL_law_1374 ic_1 ?_
  refine k_iadd hC (pc := 1375) dL_law_1375 ?_
  obtain ⟨c_362, h⟩ := h
  refine k_sld hC (pc := 1376) hX c_362 dL_law_1376 ?_
  refine k_ci (rn_V hC (pc := 1377) (As := [.int (xs (x3 + 1).toNatClampNeg)]) (rest := []) ca_X11_lost ml_RL_136 im_X11_lost se_X11_lost (fx_in f0_0) (ob0_0 _ _ _ _ _) rfl rfl (ct_X11_lost (xs (x3 + 1).toNatClampNeg) h) (by rw [hR]; exact ⟨rfl, rfl, by decide, by decide⟩) rfl (Nat.le_of_ble_eq_true rfl) dL_law_1377 ⟨by omega, by omega⟩) (fun r_364 s_363 h => ?_)
  refine k_aload_n hC (pc := 1380) dL_law_1380 2 rfl ?_
  refine k_aload_n hC (pc := 1381) dL_law_1381 0 rfl ?_
  refine k_iload_n hC (pc := 1382) dL_law_1382 3 rfl ?_
  refine k_iconst hC (pc := 1383) (v := 1) dL_law_1383 ic_1 ?_
  refine k_iadd hC (pc := 1384) dL_law_1384 ?_
  obtain ⟨c_365, h⟩ := h
  refine k_sld hC (pc := 1385) hX c_365 dL_law_1385 ?_
  refine k_ci (rn_V hC (pc := 1386) (As := [.int (xs (x3 + 1).toNatClampNeg)]) (rest := [.int r_364]) ca_X12_lost ml_RL_139 im_X12_lost se_X12_lost (fx_in f6_0) (ob6_0 _ _ _ _ _) rfl rfl (ct_X12_lost (xs (x3 + 1).toNatClampNeg) h) (by rw [hR]; exact ⟨rfl, rfl, by decide, by decide⟩) rfl (Nat.le_of_ble_eq_true rfl) dL_law_1386 ⟨by omega, by omega⟩) (fun r_367 s_366 h => ?_)
  refine k_icmp_eq hC (pc := 1389) 1891 dL_law_1389 (by decide) (fun c_368 => ?_) (fun c_368 => ?_)
  · have h := h.1 c_368
    obtain ⟨x_369, h_x_369⟩ : ∃ z : Int32, z = x3 + 6 := ⟨_, rfl⟩
    have h := h x_369 h_x_369
    refine k_iincw hC (pc := 1891) dL_law_1891 3 rfl ic_6 h_x_369.symm [(3, .int x_369), (0, .ref b), (1, .ref (adr X.G a 0 0)), (2, .ref (adr X.G a 6 0))] (by decide) rfl ?_
    refine k_goto hC (pc := 1894) 18 dL_law_1894 (by decide) ?_
    refine k_sub [(0, .ref b), (1, .ref (adr X.G a 0 0)), (2, .ref (adr X.G a 6 0)), (3, .int x_369)] [1, 2, 3, 0] rfl ?_
    refine k_widen (ce + 2) (sl + 19) (by omega) (by omega) ?_
    exact hK18 _ _ _ h
  · have h := h.2 c_368
    refine k_iconst hC (pc := 1392) (v := 0) dL_law_1392 ic_0 ?_
    exact k_lawret hC (pc := 1393) hR hQ hr hX (by rw [hR] at hce; simp only [room_1] at hce; omega) (by rw [hR] at hsl; simp only [room_1] at hsl; omega) dL_law_1393 h
set_option maxHeartbeats 4000000 in
theorem b_L_law_1394 {X : Kx} {N L b : Nat} {xs : Nat → Int32} {ce sl : Nat} {K18 : Sx → Int32 → Prop}  (hC : Cx X cL_law 4 RL) (hR : X.R = room_1) (hQ : X.Q = lw_Z X.below X.av X.s) (hr : X.meth.sig.returnType = some .boolean) (hX : lw_X X b L xs) (hce : ce + 2 ≤ X.R.cells) (hsl : sl + 19 ≤ X.R.slots) (hK18 : ∀ (a : Ax) (s : Sx) (x3 : Int32), K18 s x3 → wk X a s 4 18 [(0, .ref b), (1, .ref (adr X.G a 0 0)), (2, .ref (adr X.G a 6 0)), (3, .int x3)] [] (ce + 2) (sl + 19)) (a : Ax) (s : Sx) (x3 : Int32) (h : w_L_law_1394 N L xs K18 s x3) : wk X a s 4 1394 [(0, .ref b), (1, .ref (adr X.G a 0 0)), (2, .ref (adr X.G a 6 0)), (3, .int x3)] [] ce sl := by
  unfold w_L_law_1394 at h
  refine k_aload_n hC (pc := 1394) dL_law_1394 1 rfl ?_
  refine k_aload_n hC (pc := 1395) dL_law_1395 0 rfl ?_
  refine k_iload_n hC (pc := 1396) dL_law_1396 3 rfl ?_
  refine k_iconst hC (pc := 1397) (v := 1) dL_law_1397 ic_1 ?_
  refine k_iadd hC (pc := 1398) dL_law_1398 ?_
  obtain ⟨c_371, h⟩ := h
  refine k_sld hC (pc := 1399) hX c_371 dL_law_1399 ?_
  refine k_ci (rn_V hC (pc := 1400) (As := [.int (xs (x3 + 1).toNatClampNeg)]) (rest := []) ca_X11_call ml_RL_140 im_X11_call se_X11_call (fx_in f0_0) (ob0_0 _ _ _ _ _) rfl rfl (ct_X11_call (xs (x3 + 1).toNatClampNeg) h) (by rw [hR]; exact ⟨rfl, rfl, by decide, by decide⟩) rfl (Nat.le_of_ble_eq_true rfl) dL_law_1400 ⟨by omega, by omega⟩) (fun r_373 s_372 h => ?_)
  refine k_aload_n hC (pc := 1403) dL_law_1403 2 rfl ?_
  refine k_aload_n hC (pc := 1404) dL_law_1404 0 rfl ?_
  refine k_iload_n hC (pc := 1405) dL_law_1405 3 rfl ?_
  refine k_iconst hC (pc := 1406) (v := 1) dL_law_1406 ic_1 ?_
  refine k_iadd hC (pc := 1407) dL_law_1407 ?_
  obtain ⟨c_374, h⟩ := h
  refine k_sld hC (pc := 1408) hX c_374 dL_law_1408 ?_
  refine k_ci (rn_V hC (pc := 1409) (As := [.int (xs (x3 + 1).toNatClampNeg)]) (rest := [.int r_373]) ca_X12_call ml_RL_143 im_X12_call se_X12_call (fx_in f6_0) (ob6_0 _ _ _ _ _) rfl rfl (ct_X12_call (xs (x3 + 1).toNatClampNeg) h) (by rw [hR]; exact ⟨rfl, rfl, by decide, by decide⟩) rfl (Nat.le_of_ble_eq_true rfl) dL_law_1409 ⟨by omega, by omega⟩) (fun r_376 s_375 h => ?_)
  refine k_icmp_eq hC (pc := 1412) 1891 dL_law_1412 (by decide) (fun c_377 => ?_) (fun c_377 => ?_)
  · have h := h.1 c_377
    obtain ⟨x_378, h_x_378⟩ : ∃ z : Int32, z = x3 + 6 := ⟨_, rfl⟩
    have h := h x_378 h_x_378
    refine k_iincw hC (pc := 1891) dL_law_1891 3 rfl ic_6 h_x_378.symm [(3, .int x_378), (0, .ref b), (1, .ref (adr X.G a 0 0)), (2, .ref (adr X.G a 6 0))] (by decide) rfl ?_
    refine k_goto hC (pc := 1894) 18 dL_law_1894 (by decide) ?_
    refine k_sub [(0, .ref b), (1, .ref (adr X.G a 0 0)), (2, .ref (adr X.G a 6 0)), (3, .int x_378)] [1, 2, 3, 0] rfl ?_
    refine k_widen (ce + 2) (sl + 19) (by omega) (by omega) ?_
    exact hK18 _ _ _ h
  · have h := h.2 c_377
    refine k_iconst hC (pc := 1415) (v := 0) dL_law_1415 ic_0 ?_
    exact k_lawret hC (pc := 1416) hR hQ hr hX (by rw [hR] at hce; simp only [room_1] at hce; omega) (by rw [hR] at hsl; simp only [room_1] at hsl; omega) dL_law_1416 h
set_option maxHeartbeats 4000000 in
theorem b_L_law_1478 {X : Kx} {N L b : Nat} {xs : Nat → Int32} {ce sl : Nat} {K18 : Sx → Int32 → Prop}  (hC : Cx X cL_law 4 RL) (hR : X.R = room_1) (hQ : X.Q = lw_Z X.below X.av X.s) (hr : X.meth.sig.returnType = some .boolean) (hX : lw_X X b L xs) (hce : ce + 2 ≤ X.R.cells) (hsl : sl + 19 ≤ X.R.slots) (hK18 : ∀ (a : Ax) (s : Sx) (x3 : Int32), K18 s x3 → wk X a s 4 18 [(0, .ref b), (1, .ref (adr X.G a 0 0)), (2, .ref (adr X.G a 6 0)), (3, .int x3)] [] (ce + 2) (sl + 19)) (a : Ax) (s : Sx) (x3 : Int32) (z0 : Int32) (z2 : Int32) (z3 : Int32) (z4 : Int32) (z5 : Int32) (h : w_L_law_1478 N L xs K18 s x3 z0 z2 z3 z4 z5) : wk X a s 4 1478 [(0, .ref b), (1, .ref (adr X.G a 0 0)), (2, .ref (adr X.G a 6 0)), (3, .int x3)] [.int z5, .int z4, .int z3, .int z2, .ref (adr X.G a 6 0), .int z0] ce sl := by
  unfold w_L_law_1478 at h
  refine k_ci (rn_V hC (pc := 1478) (As := [.int z2, .int z3, .int z4, .int z5]) (rest := [.int z0]) ca_X12_place ml_RL_148 im_X12_place se_X12_place (fx_in f6_0) (ob6_0 _ _ _ _ _) rfl rfl (ct_X12_place z2 z3 z4 z5 h) (by rw [hR]; exact ⟨rfl, rfl, by decide, by decide⟩) rfl (Nat.le_of_ble_eq_true rfl) dL_law_1478 ⟨by omega, by omega⟩) (fun r_393 s_392 h => ?_)
  refine k_icmp_eq hC (pc := 1481) 1891 dL_law_1481 (by decide) (fun c_394 => ?_) (fun c_394 => ?_)
  · have h := h.1 c_394
    obtain ⟨x_395, h_x_395⟩ : ∃ z : Int32, z = x3 + 6 := ⟨_, rfl⟩
    have h := h x_395 h_x_395
    refine k_iincw hC (pc := 1891) dL_law_1891 3 rfl ic_6 h_x_395.symm [(3, .int x_395), (0, .ref b), (1, .ref (adr X.G a 0 0)), (2, .ref (adr X.G a 6 0))] (by decide) rfl ?_
    refine k_goto hC (pc := 1894) 18 dL_law_1894 (by decide) ?_
    refine k_sub [(0, .ref b), (1, .ref (adr X.G a 0 0)), (2, .ref (adr X.G a 6 0)), (3, .int x_395)] [1, 2, 3, 0] rfl ?_
    refine k_widen (ce + 2) (sl + 19) (by omega) (by omega) ?_
    exact hK18 _ _ _ h
  · have h := h.2 c_394
    refine k_iconst hC (pc := 1484) (v := 0) dL_law_1484 ic_0 ?_
    exact k_lawret hC (pc := 1485) hR hQ hr hX (by rw [hR] at hce; simp only [room_1] at hce; omega) (by rw [hR] at hsl; simp only [room_1] at hsl; omega) dL_law_1485 h
set_option maxHeartbeats 4000000 in
theorem b_L_law_1446 {X : Kx} {N L b : Nat} {xs : Nat → Int32} {ce sl : Nat} {K18 : Sx → Int32 → Prop}  (hC : Cx X cL_law 4 RL) (hR : X.R = room_1) (hQ : X.Q = lw_Z X.below X.av X.s) (hr : X.meth.sig.returnType = some .boolean) (hX : lw_X X b L xs) (hce : ce + 2 ≤ X.R.cells) (hsl : sl + 19 ≤ X.R.slots) (hK18 : ∀ (a : Ax) (s : Sx) (x3 : Int32), K18 s x3 → wk X a s 4 18 [(0, .ref b), (1, .ref (adr X.G a 0 0)), (2, .ref (adr X.G a 6 0)), (3, .int x3)] [] (ce + 2) (sl + 19)) (a : Ax) (s : Sx) (x3 : Int32) (z1 : Int32) (z2 : Int32) (z3 : Int32) (z4 : Int32) (h : w_L_law_1446 N L xs K18 s x3 z1 z2 z3 z4) : wk X a s 4 1446 [(0, .ref b), (1, .ref (adr X.G a 0 0)), (2, .ref (adr X.G a 6 0)), (3, .int x3)] [.int z4, .int z3, .int z2, .int z1, .ref (adr X.G a 0 0)] ce sl := by
  unfold w_L_law_1446 at h
  refine k_ci (rn_V hC (pc := 1446) (As := [.int z1, .int z2, .int z3, .int z4]) (rest := []) ca_X11_place ml_RL_144 im_X11_place se_X11_place (fx_in f0_0) (ob0_0 _ _ _ _ _) rfl rfl (ct_X11_place z1 z2 z3 z4 h) (by rw [hR]; exact ⟨rfl, rfl, by decide, by decide⟩) rfl (Nat.le_of_ble_eq_true rfl) dL_law_1446 ⟨by omega, by omega⟩) (fun r_386 s_385 h => ?_)
  refine k_aload_n hC (pc := 1449) dL_law_1449 2 rfl ?_
  refine k_aload_n hC (pc := 1450) dL_law_1450 0 rfl ?_
  refine k_iload_n hC (pc := 1451) dL_law_1451 3 rfl ?_
  refine k_iconst hC (pc := 1452) (v := 1) dL_law_1452 ic_1 ?_
  refine k_iadd hC (pc := 1453) dL_law_1453 ?_
  obtain ⟨c_387, h⟩ := h
  refine k_sld hC (pc := 1454) hX c_387 dL_law_1454 ?_
  refine k_aload_n hC (pc := 1455) dL_law_1455 0 rfl ?_
  refine k_iload_n hC (pc := 1456) dL_law_1456 3 rfl ?_
  refine k_iconst hC (pc := 1457) (v := 2) dL_law_1457 ic_2 ?_
  refine k_iadd hC (pc := 1458) dL_law_1458 ?_
  obtain ⟨c_388, h⟩ := h
  refine k_sld hC (pc := 1459) hX c_388 dL_law_1459 ?_
  refine k_aload_n hC (pc := 1460) dL_law_1460 0 rfl ?_
  refine k_iload_n hC (pc := 1461) dL_law_1461 3 rfl ?_
  refine k_iconst hC (pc := 1462) (v := 3) dL_law_1462 ic_3 ?_
  refine k_iadd hC (pc := 1463) dL_law_1463 ?_
  obtain ⟨c_389, h⟩ := h
  refine k_sld hC (pc := 1464) hX c_389 dL_law_1464 ?_
  refine k_aload_n hC (pc := 1465) dL_law_1465 0 rfl ?_
  refine k_iload_n hC (pc := 1466) dL_law_1466 3 rfl ?_
  refine k_iconst hC (pc := 1467) (v := 4) dL_law_1467 ic_4 ?_
  refine k_iadd hC (pc := 1468) dL_law_1468 ?_
  obtain ⟨c_390, h⟩ := h
  refine k_sld hC (pc := 1469) hX c_390 dL_law_1469 ?_
  refine k_if_eq hC (pc := 1470) 1477 dL_law_1470 (by decide) (fun c_391 => ?_) (fun c_391 => ?_)
  · have h := h.1 c_391
    refine k_iconst hC (pc := 1477) (v := 0) dL_law_1477 ic_0 ?_
    exact b_L_law_1478 hC hR hQ hr hX (ce := ce) (sl := sl) (by omega) (by omega) hK18 _ _ _ _ _ _ _ _ h
  · have h := h.2 c_391
    refine k_iconst hC (pc := 1473) (v := 1) dL_law_1473 ic_1 ?_
    refine k_goto hC (pc := 1474) 1478 dL_law_1474 (by decide) ?_
    exact b_L_law_1478 hC hR hQ hr hX (ce := ce) (sl := sl) (by omega) (by omega) hK18 _ _ _ _ _ _ _ _ h
set_option maxHeartbeats 4000000 in
theorem b_L_law_1417 {X : Kx} {N L b : Nat} {xs : Nat → Int32} {ce sl : Nat} {K18 : Sx → Int32 → Prop}  (hC : Cx X cL_law 4 RL) (hR : X.R = room_1) (hQ : X.Q = lw_Z X.below X.av X.s) (hr : X.meth.sig.returnType = some .boolean) (hX : lw_X X b L xs) (hce : ce + 2 ≤ X.R.cells) (hsl : sl + 19 ≤ X.R.slots) (hK18 : ∀ (a : Ax) (s : Sx) (x3 : Int32), K18 s x3 → wk X a s 4 18 [(0, .ref b), (1, .ref (adr X.G a 0 0)), (2, .ref (adr X.G a 6 0)), (3, .int x3)] [] (ce + 2) (sl + 19)) (a : Ax) (s : Sx) (x3 : Int32) (h : w_L_law_1417 N L xs K18 s x3) : wk X a s 4 1417 [(0, .ref b), (1, .ref (adr X.G a 0 0)), (2, .ref (adr X.G a 6 0)), (3, .int x3)] [] ce sl := by
  unfold w_L_law_1417 at h
  refine k_aload_n hC (pc := 1417) dL_law_1417 1 rfl ?_
  refine k_aload_n hC (pc := 1418) dL_law_1418 0 rfl ?_
  refine k_iload_n hC (pc := 1419) dL_law_1419 3 rfl ?_
  refine k_iconst hC (pc := 1420) (v := 1) dL_law_1420 ic_1 ?_
  refine k_iadd hC (pc := 1421) dL_law_1421 ?_
  obtain ⟨c_380, h⟩ := h
  refine k_sld hC (pc := 1422) hX c_380 dL_law_1422 ?_
  refine k_aload_n hC (pc := 1423) dL_law_1423 0 rfl ?_
  refine k_iload_n hC (pc := 1424) dL_law_1424 3 rfl ?_
  refine k_iconst hC (pc := 1425) (v := 2) dL_law_1425 ic_2 ?_
  refine k_iadd hC (pc := 1426) dL_law_1426 ?_
  obtain ⟨c_381, h⟩ := h
  refine k_sld hC (pc := 1427) hX c_381 dL_law_1427 ?_
  refine k_aload_n hC (pc := 1428) dL_law_1428 0 rfl ?_
  refine k_iload_n hC (pc := 1429) dL_law_1429 3 rfl ?_
  refine k_iconst hC (pc := 1430) (v := 3) dL_law_1430 ic_3 ?_
  refine k_iadd hC (pc := 1431) dL_law_1431 ?_
  obtain ⟨c_382, h⟩ := h
  refine k_sld hC (pc := 1432) hX c_382 dL_law_1432 ?_
  refine k_aload_n hC (pc := 1433) dL_law_1433 0 rfl ?_
  refine k_iload_n hC (pc := 1434) dL_law_1434 3 rfl ?_
  refine k_iconst hC (pc := 1435) (v := 4) dL_law_1435 ic_4 ?_
  refine k_iadd hC (pc := 1436) dL_law_1436 ?_
  obtain ⟨c_383, h⟩ := h
  refine k_sld hC (pc := 1437) hX c_383 dL_law_1437 ?_
  refine k_if_eq hC (pc := 1438) 1445 dL_law_1438 (by decide) (fun c_384 => ?_) (fun c_384 => ?_)
  · have h := h.1 c_384
    refine k_iconst hC (pc := 1445) (v := 0) dL_law_1445 ic_0 ?_
    exact b_L_law_1446 hC hR hQ hr hX (ce := ce) (sl := sl) (by omega) (by omega) hK18 _ _ _ _ _ _ _ h
  · have h := h.2 c_384
    refine k_iconst hC (pc := 1441) (v := 1) dL_law_1441 ic_1 ?_
    refine k_goto hC (pc := 1442) 1446 dL_law_1442 (by decide) ?_
    exact b_L_law_1446 hC hR hQ hr hX (ce := ce) (sl := sl) (by omega) (by omega) hK18 _ _ _ _ _ _ _ h
set_option maxHeartbeats 4000000 in
theorem b_L_law_1486 {X : Kx} {N L b : Nat} {xs : Nat → Int32} {ce sl : Nat} {K18 : Sx → Int32 → Prop}  (hC : Cx X cL_law 4 RL) (hR : X.R = room_1) (hQ : X.Q = lw_Z X.below X.av X.s) (hr : X.meth.sig.returnType = some .boolean) (hX : lw_X X b L xs) (hce : ce + 2 ≤ X.R.cells) (hsl : sl + 19 ≤ X.R.slots) (hK18 : ∀ (a : Ax) (s : Sx) (x3 : Int32), K18 s x3 → wk X a s 4 18 [(0, .ref b), (1, .ref (adr X.G a 0 0)), (2, .ref (adr X.G a 6 0)), (3, .int x3)] [] (ce + 2) (sl + 19)) (a : Ax) (s : Sx) (x3 : Int32) (h : w_L_law_1486 N L xs K18 s x3) : wk X a s 4 1486 [(0, .ref b), (1, .ref (adr X.G a 0 0)), (2, .ref (adr X.G a 6 0)), (3, .int x3)] [] ce sl := by
  unfold w_L_law_1486 at h
  refine k_aload_n hC (pc := 1486) dL_law_1486 1 rfl ?_
  refine k_aload_n hC (pc := 1487) dL_law_1487 0 rfl ?_
  refine k_iload_n hC (pc := 1488) dL_law_1488 3 rfl ?_
  refine k_iconst hC (pc := 1489) (v := 1) dL_law_1489 ic_1 ?_
  refine k_iadd hC (pc := 1490) dL_law_1490 ?_
  obtain ⟨c_397, h⟩ := h
  refine k_sld hC (pc := 1491) hX c_397 dL_law_1491 ?_
  refine k_cl (rn_V hC (pc := 1492) (As := [.int (xs (x3 + 1).toNatClampNeg)]) (rest := []) ca_X11_move ml_RL_149 im_X11_move se_X11_move (fx_in f0_0) (ob0_0 _ _ _ _ _) rfl rfl (ct_X11_move (xs (x3 + 1).toNatClampNeg) h) (by rw [hR]; exact ⟨rfl, rfl, by decide, by decide⟩) rfl (Nat.le_of_ble_eq_true rfl) dL_law_1492 ⟨by omega, by omega⟩) (fun r_399 s_398 h => ?_)
  refine k_aload_n hC (pc := 1495) dL_law_1495 2 rfl ?_
  refine k_aload_n hC (pc := 1496) dL_law_1496 0 rfl ?_
  refine k_iload_n hC (pc := 1497) dL_law_1497 3 rfl ?_
  refine k_iconst hC (pc := 1498) (v := 1) dL_law_1498 ic_1 ?_
  refine k_iadd hC (pc := 1499) dL_law_1499 ?_
  obtain ⟨c_400, h⟩ := h
  refine k_sld hC (pc := 1500) hX c_400 dL_law_1500 ?_
  refine k_cl (rn_V hC (pc := 1501) (As := [.int (xs (x3 + 1).toNatClampNeg)]) (rest := [.long r_399]) ca_X12_move ml_RL_153 im_X12_move se_X12_move (fx_in f6_0) (ob6_0 _ _ _ _ _) rfl rfl (ct_X12_move (xs (x3 + 1).toNatClampNeg) h) (by rw [hR]; exact ⟨rfl, rfl, by decide, by decide⟩) rfl (Nat.le_of_ble_eq_true rfl) dL_law_1501 ⟨by omega, by omega⟩) (fun r_402 s_401 h => ?_)
  refine k_lcmp hC (pc := 1504) dL_law_1504 ?_
  refine k_if_eq hC (pc := 1505) 1891 dL_law_1505 (by decide) (fun c_403 => ?_) (fun c_403 => ?_)
  · have h := h.1 c_403
    obtain ⟨x_404, h_x_404⟩ : ∃ z : Int32, z = x3 + 6 := ⟨_, rfl⟩
    have h := h x_404 h_x_404
    refine k_iincw hC (pc := 1891) dL_law_1891 3 rfl ic_6 h_x_404.symm [(3, .int x_404), (0, .ref b), (1, .ref (adr X.G a 0 0)), (2, .ref (adr X.G a 6 0))] (by decide) rfl ?_
    refine k_goto hC (pc := 1894) 18 dL_law_1894 (by decide) ?_
    refine k_sub [(0, .ref b), (1, .ref (adr X.G a 0 0)), (2, .ref (adr X.G a 6 0)), (3, .int x_404)] [1, 2, 3, 0] rfl ?_
    refine k_widen (ce + 2) (sl + 19) (by omega) (by omega) ?_
    exact hK18 _ _ _ h
  · have h := h.2 c_403
    refine k_iconst hC (pc := 1508) (v := 0) dL_law_1508 ic_0 ?_
    exact k_lawret hC (pc := 1509) hR hQ hr hX (by rw [hR] at hce; simp only [room_1] at hce; omega) (by rw [hR] at hsl; simp only [room_1] at hsl; omega) dL_law_1509 h
set_option maxHeartbeats 4000000 in
theorem b_L_law_1510 {X : Kx} {N L b : Nat} {xs : Nat → Int32} {ce sl : Nat} {K18 : Sx → Int32 → Prop}  (hC : Cx X cL_law 4 RL) (hR : X.R = room_1) (hQ : X.Q = lw_Z X.below X.av X.s) (hr : X.meth.sig.returnType = some .boolean) (hX : lw_X X b L xs) (hce : ce + 2 ≤ X.R.cells) (hsl : sl + 19 ≤ X.R.slots) (hK18 : ∀ (a : Ax) (s : Sx) (x3 : Int32), K18 s x3 → wk X a s 4 18 [(0, .ref b), (1, .ref (adr X.G a 0 0)), (2, .ref (adr X.G a 6 0)), (3, .int x3)] [] (ce + 2) (sl + 19)) (a : Ax) (s : Sx) (x3 : Int32) (h : w_L_law_1510 N L xs K18 s x3) : wk X a s 4 1510 [(0, .ref b), (1, .ref (adr X.G a 0 0)), (2, .ref (adr X.G a 6 0)), (3, .int x3)] [] ce sl := by
  unfold w_L_law_1510 at h
  refine k_aload_n hC (pc := 1510) dL_law_1510 1 rfl ?_
  refine k_aload_n hC (pc := 1511) dL_law_1511 0 rfl ?_
  refine k_iload_n hC (pc := 1512) dL_law_1512 3 rfl ?_
  refine k_iconst hC (pc := 1513) (v := 1) dL_law_1513 ic_1 ?_
  refine k_iadd hC (pc := 1514) dL_law_1514 ?_
  obtain ⟨c_406, h⟩ := h
  refine k_sld hC (pc := 1515) hX c_406 dL_law_1515 ?_
  refine k_aload_n hC (pc := 1516) dL_law_1516 0 rfl ?_
  refine k_iload_n hC (pc := 1517) dL_law_1517 3 rfl ?_
  refine k_iconst hC (pc := 1518) (v := 2) dL_law_1518 ic_2 ?_
  refine k_iadd hC (pc := 1519) dL_law_1519 ?_
  obtain ⟨c_407, h⟩ := h
  refine k_sld hC (pc := 1520) hX c_407 dL_law_1520 ?_
  refine k_aload_n hC (pc := 1521) dL_law_1521 0 rfl ?_
  refine k_iload_n hC (pc := 1522) dL_law_1522 3 rfl ?_
  refine k_iconst hC (pc := 1523) (v := 3) dL_law_1523 ic_3 ?_
  refine k_iadd hC (pc := 1524) dL_law_1524 ?_
  obtain ⟨c_408, h⟩ := h
  refine k_sld hC (pc := 1525) hX c_408 dL_law_1525 ?_
  refine k_aload_n hC (pc := 1526) dL_law_1526 0 rfl ?_
  refine k_iload_n hC (pc := 1527) dL_law_1527 3 rfl ?_
  refine k_iconst hC (pc := 1528) (v := 4) dL_law_1528 ic_4 ?_
  refine k_iadd hC (pc := 1529) dL_law_1529 ?_
  obtain ⟨c_409, h⟩ := h
  refine k_sld hC (pc := 1530) hX c_409 dL_law_1530 ?_
  refine k_cl (rn_V hC (pc := 1531) (As := [.int (xs (x3 + 1).toNatClampNeg), .int (xs (x3 + 2).toNatClampNeg), .int (xs (x3 + 3).toNatClampNeg), .int (xs (x3 + 4).toNatClampNeg)]) (rest := []) ca_X11_gain ml_RL_154 im_X11_gain se_X11_gain (fx_in f0_0) (ob0_0 _ _ _ _ _) rfl rfl (ct_X11_gain (xs (x3 + 1).toNatClampNeg) (xs (x3 + 2).toNatClampNeg) (xs (x3 + 3).toNatClampNeg) (xs (x3 + 4).toNatClampNeg) h) (by rw [hR]; exact ⟨rfl, rfl, by decide, by decide⟩) rfl (Nat.le_of_ble_eq_true rfl) dL_law_1531 ⟨by omega, by omega⟩) (fun r_411 s_410 h => ?_)
  refine k_aload_n hC (pc := 1534) dL_law_1534 2 rfl ?_
  refine k_aload_n hC (pc := 1535) dL_law_1535 0 rfl ?_
  refine k_iload_n hC (pc := 1536) dL_law_1536 3 rfl ?_
  refine k_iconst hC (pc := 1537) (v := 1) dL_law_1537 ic_1 ?_
  refine k_iadd hC (pc := 1538) dL_law_1538 ?_
  obtain ⟨c_412, h⟩ := h
  refine k_sld hC (pc := 1539) hX c_412 dL_law_1539 ?_
  refine k_aload_n hC (pc := 1540) dL_law_1540 0 rfl ?_
  refine k_iload_n hC (pc := 1541) dL_law_1541 3 rfl ?_
  refine k_iconst hC (pc := 1542) (v := 2) dL_law_1542 ic_2 ?_
  refine k_iadd hC (pc := 1543) dL_law_1543 ?_
  obtain ⟨c_413, h⟩ := h
  refine k_sld hC (pc := 1544) hX c_413 dL_law_1544 ?_
  refine k_aload_n hC (pc := 1545) dL_law_1545 0 rfl ?_
  refine k_iload_n hC (pc := 1546) dL_law_1546 3 rfl ?_
  refine k_iconst hC (pc := 1547) (v := 3) dL_law_1547 ic_3 ?_
  refine k_iadd hC (pc := 1548) dL_law_1548 ?_
  obtain ⟨c_414, h⟩ := h
  refine k_sld hC (pc := 1549) hX c_414 dL_law_1549 ?_
  refine k_aload_n hC (pc := 1550) dL_law_1550 0 rfl ?_
  refine k_iload_n hC (pc := 1551) dL_law_1551 3 rfl ?_
  refine k_iconst hC (pc := 1552) (v := 4) dL_law_1552 ic_4 ?_
  refine k_iadd hC (pc := 1553) dL_law_1553 ?_
  obtain ⟨c_415, h⟩ := h
  refine k_sld hC (pc := 1554) hX c_415 dL_law_1554 ?_
  refine k_cl (rn_V hC (pc := 1555) (As := [.int (xs (x3 + 1).toNatClampNeg), .int (xs (x3 + 2).toNatClampNeg), .int (xs (x3 + 3).toNatClampNeg), .int (xs (x3 + 4).toNatClampNeg)]) (rest := [.long r_411]) ca_X12_gain ml_RL_158 im_X12_gain se_X12_gain (fx_in f6_0) (ob6_0 _ _ _ _ _) rfl rfl (ct_X12_gain (xs (x3 + 1).toNatClampNeg) (xs (x3 + 2).toNatClampNeg) (xs (x3 + 3).toNatClampNeg) (xs (x3 + 4).toNatClampNeg) h) (by rw [hR]; exact ⟨rfl, rfl, by decide, by decide⟩) rfl (Nat.le_of_ble_eq_true rfl) dL_law_1555 ⟨by omega, by omega⟩) (fun r_417 s_416 h => ?_)
  refine k_lcmp hC (pc := 1558) dL_law_1558 ?_
  refine k_if_eq hC (pc := 1559) 1891 dL_law_1559 (by decide) (fun c_418 => ?_) (fun c_418 => ?_)
  · have h := h.1 c_418
    obtain ⟨x_419, h_x_419⟩ : ∃ z : Int32, z = x3 + 6 := ⟨_, rfl⟩
    have h := h x_419 h_x_419
    refine k_iincw hC (pc := 1891) dL_law_1891 3 rfl ic_6 h_x_419.symm [(3, .int x_419), (0, .ref b), (1, .ref (adr X.G a 0 0)), (2, .ref (adr X.G a 6 0))] (by decide) rfl ?_
    refine k_goto hC (pc := 1894) 18 dL_law_1894 (by decide) ?_
    refine k_sub [(0, .ref b), (1, .ref (adr X.G a 0 0)), (2, .ref (adr X.G a 6 0)), (3, .int x_419)] [1, 2, 3, 0] rfl ?_
    refine k_widen (ce + 2) (sl + 19) (by omega) (by omega) ?_
    exact hK18 _ _ _ h
  · have h := h.2 c_418
    refine k_iconst hC (pc := 1562) (v := 0) dL_law_1562 ic_0 ?_
    exact k_lawret hC (pc := 1563) hR hQ hr hX (by rw [hR] at hce; simp only [room_1] at hce; omega) (by rw [hR] at hsl; simp only [room_1] at hsl; omega) dL_law_1563 h
set_option maxHeartbeats 4000000 in
theorem b_L_law_1564 {X : Kx} {N L b : Nat} {xs : Nat → Int32} {ce sl : Nat} {K18 : Sx → Int32 → Prop}  (hC : Cx X cL_law 4 RL) (hR : X.R = room_1) (hQ : X.Q = lw_Z X.below X.av X.s) (hr : X.meth.sig.returnType = some .boolean) (hX : lw_X X b L xs) (hce : ce + 2 ≤ X.R.cells) (hsl : sl + 19 ≤ X.R.slots) (hK18 : ∀ (a : Ax) (s : Sx) (x3 : Int32), K18 s x3 → wk X a s 4 18 [(0, .ref b), (1, .ref (adr X.G a 0 0)), (2, .ref (adr X.G a 6 0)), (3, .int x3)] [] (ce + 2) (sl + 19)) (a : Ax) (s : Sx) (x3 : Int32) (h : w_L_law_1564 N L xs K18 s x3) : wk X a s 4 1564 [(0, .ref b), (1, .ref (adr X.G a 0 0)), (2, .ref (adr X.G a 6 0)), (3, .int x3)] [] ce sl := by
  unfold w_L_law_1564 at h
  refine k_aload_n hC (pc := 1564) dL_law_1564 1 rfl ?_
  refine k_ci (rn_V hC (pc := 1565) (As := []) (rest := []) ca_X11_go ml_RL_159 im_X11_go se_X11_go (fx_in f0_0) (ob0_0 _ _ _ _ _) rfl rfl (ct_X11_go h) (by rw [hR]; exact ⟨rfl, rfl, by decide, by decide⟩) rfl (Nat.le_of_ble_eq_true rfl) dL_law_1565 ⟨by omega, by omega⟩) (fun r_422 s_421 h => ?_)
  refine k_aload_n hC (pc := 1568) dL_law_1568 2 rfl ?_
  refine k_ci (rn_V hC (pc := 1569) (As := []) (rest := [.int r_422]) ca_X12_go ml_RL_162 im_X12_go se_X12_go (fx_in f6_0) (ob6_0 _ _ _ _ _) rfl rfl (ct_X12_go h) (by rw [hR]; exact ⟨rfl, rfl, by decide, by decide⟩) rfl (Nat.le_of_ble_eq_true rfl) dL_law_1569 ⟨by omega, by omega⟩) (fun r_424 s_423 h => ?_)
  refine k_icmp_eq hC (pc := 1572) 1891 dL_law_1572 (by decide) (fun c_425 => ?_) (fun c_425 => ?_)
  · have h := h.1 c_425
    obtain ⟨x_426, h_x_426⟩ : ∃ z : Int32, z = x3 + 6 := ⟨_, rfl⟩
    have h := h x_426 h_x_426
    refine k_iincw hC (pc := 1891) dL_law_1891 3 rfl ic_6 h_x_426.symm [(3, .int x_426), (0, .ref b), (1, .ref (adr X.G a 0 0)), (2, .ref (adr X.G a 6 0))] (by decide) rfl ?_
    refine k_goto hC (pc := 1894) 18 dL_law_1894 (by decide) ?_
    refine k_sub [(0, .ref b), (1, .ref (adr X.G a 0 0)), (2, .ref (adr X.G a 6 0)), (3, .int x_426)] [1, 2, 3, 0] rfl ?_
    refine k_widen (ce + 2) (sl + 19) (by omega) (by omega) ?_
    exact hK18 _ _ _ h
  · have h := h.2 c_425
    refine k_iconst hC (pc := 1575) (v := 0) dL_law_1575 ic_0 ?_
    exact k_lawret hC (pc := 1576) hR hQ hr hX (by rw [hR] at hce; simp only [room_1] at hce; omega) (by rw [hR] at hsl; simp only [room_1] at hsl; omega) dL_law_1576 h
set_option maxHeartbeats 4000000 in
theorem b_L_law_1577 {X : Kx} {N L b : Nat} {xs : Nat → Int32} {ce sl : Nat} {K18 : Sx → Int32 → Prop}  (hC : Cx X cL_law 4 RL) (hR : X.R = room_1) (hQ : X.Q = lw_Z X.below X.av X.s) (hr : X.meth.sig.returnType = some .boolean) (hX : lw_X X b L xs) (hce : ce + 2 ≤ X.R.cells) (hsl : sl + 19 ≤ X.R.slots) (hK18 : ∀ (a : Ax) (s : Sx) (x3 : Int32), K18 s x3 → wk X a s 4 18 [(0, .ref b), (1, .ref (adr X.G a 0 0)), (2, .ref (adr X.G a 6 0)), (3, .int x3)] [] (ce + 2) (sl + 19)) (a : Ax) (s : Sx) (x3 : Int32) (h : w_L_law_1577 N L xs K18 s x3) : wk X a s 4 1577 [(0, .ref b), (1, .ref (adr X.G a 0 0)), (2, .ref (adr X.G a 6 0)), (3, .int x3)] [] ce sl := by
  unfold w_L_law_1577 at h
  refine k_aload_n hC (pc := 1577) dL_law_1577 1 rfl ?_
  refine k_aload_n hC (pc := 1578) dL_law_1578 0 rfl ?_
  refine k_iload_n hC (pc := 1579) dL_law_1579 3 rfl ?_
  refine k_iconst hC (pc := 1580) (v := 1) dL_law_1580 ic_1 ?_
  refine k_iadd hC (pc := 1581) dL_law_1581 ?_
  obtain ⟨c_428, h⟩ := h
  refine k_sld hC (pc := 1582) hX c_428 dL_law_1582 ?_
  refine k_aload_n hC (pc := 1583) dL_law_1583 0 rfl ?_
  refine k_iload_n hC (pc := 1584) dL_law_1584 3 rfl ?_
  refine k_iconst hC (pc := 1585) (v := 2) dL_law_1585 ic_2 ?_
  refine k_iadd hC (pc := 1586) dL_law_1586 ?_
  obtain ⟨c_429, h⟩ := h
  refine k_sld hC (pc := 1587) hX c_429 dL_law_1587 ?_
  refine k_ci (rn_V hC (pc := 1588) (As := [.int (xs (x3 + 1).toNatClampNeg), .int (xs (x3 + 2).toNatClampNeg)]) (rest := []) ca_X11_spot ml_RL_163 im_X11_spot se_X11_spot (fx_in f0_0) (ob0_0 _ _ _ _ _) rfl rfl (ct_X11_spot (xs (x3 + 1).toNatClampNeg) (xs (x3 + 2).toNatClampNeg) h) (by rw [hR]; exact ⟨rfl, rfl, by decide, by decide⟩) rfl (Nat.le_of_ble_eq_true rfl) dL_law_1588 ⟨by omega, by omega⟩) (fun r_431 s_430 h => ?_)
  refine k_aload_n hC (pc := 1591) dL_law_1591 2 rfl ?_
  refine k_aload_n hC (pc := 1592) dL_law_1592 0 rfl ?_
  refine k_iload_n hC (pc := 1593) dL_law_1593 3 rfl ?_
  refine k_iconst hC (pc := 1594) (v := 1) dL_law_1594 ic_1 ?_
  refine k_iadd hC (pc := 1595) dL_law_1595 ?_
  obtain ⟨c_432, h⟩ := h
  refine k_sld hC (pc := 1596) hX c_432 dL_law_1596 ?_
  refine k_aload_n hC (pc := 1597) dL_law_1597 0 rfl ?_
  refine k_iload_n hC (pc := 1598) dL_law_1598 3 rfl ?_
  refine k_iconst hC (pc := 1599) (v := 2) dL_law_1599 ic_2 ?_
  refine k_iadd hC (pc := 1600) dL_law_1600 ?_
  obtain ⟨c_433, h⟩ := h
  refine k_sld hC (pc := 1601) hX c_433 dL_law_1601 ?_
  refine k_ci (rn_V hC (pc := 1602) (As := [.int (xs (x3 + 1).toNatClampNeg), .int (xs (x3 + 2).toNatClampNeg)]) (rest := [.int r_431]) ca_X12_spot ml_RL_166 im_X12_spot se_X12_spot (fx_in f6_0) (ob6_0 _ _ _ _ _) rfl rfl (ct_X12_spot (xs (x3 + 1).toNatClampNeg) (xs (x3 + 2).toNatClampNeg) h) (by rw [hR]; exact ⟨rfl, rfl, by decide, by decide⟩) rfl (Nat.le_of_ble_eq_true rfl) dL_law_1602 ⟨by omega, by omega⟩) (fun r_435 s_434 h => ?_)
  refine k_icmp_eq hC (pc := 1605) 1891 dL_law_1605 (by decide) (fun c_436 => ?_) (fun c_436 => ?_)
  · have h := h.1 c_436
    obtain ⟨x_437, h_x_437⟩ : ∃ z : Int32, z = x3 + 6 := ⟨_, rfl⟩
    have h := h x_437 h_x_437
    refine k_iincw hC (pc := 1891) dL_law_1891 3 rfl ic_6 h_x_437.symm [(3, .int x_437), (0, .ref b), (1, .ref (adr X.G a 0 0)), (2, .ref (adr X.G a 6 0))] (by decide) rfl ?_
    refine k_goto hC (pc := 1894) 18 dL_law_1894 (by decide) ?_
    refine k_sub [(0, .ref b), (1, .ref (adr X.G a 0 0)), (2, .ref (adr X.G a 6 0)), (3, .int x_437)] [1, 2, 3, 0] rfl ?_
    refine k_widen (ce + 2) (sl + 19) (by omega) (by omega) ?_
    exact hK18 _ _ _ h
  · have h := h.2 c_436
    refine k_iconst hC (pc := 1608) (v := 0) dL_law_1608 ic_0 ?_
    exact k_lawret hC (pc := 1609) hR hQ hr hX (by rw [hR] at hce; simp only [room_1] at hce; omega) (by rw [hR] at hsl; simp only [room_1] at hsl; omega) dL_law_1609 h
set_option maxHeartbeats 4000000 in
theorem b_L_law_1610 {X : Kx} {N L b : Nat} {xs : Nat → Int32} {ce sl : Nat} {K18 : Sx → Int32 → Prop}  (hC : Cx X cL_law 4 RL) (hR : X.R = room_1) (hQ : X.Q = lw_Z X.below X.av X.s) (hr : X.meth.sig.returnType = some .boolean) (hX : lw_X X b L xs) (hce : ce + 2 ≤ X.R.cells) (hsl : sl + 19 ≤ X.R.slots) (hK18 : ∀ (a : Ax) (s : Sx) (x3 : Int32), K18 s x3 → wk X a s 4 18 [(0, .ref b), (1, .ref (adr X.G a 0 0)), (2, .ref (adr X.G a 6 0)), (3, .int x3)] [] (ce + 2) (sl + 19)) (a : Ax) (s : Sx) (x3 : Int32) (h : w_L_law_1610 N L xs K18 s x3) : wk X a s 4 1610 [(0, .ref b), (1, .ref (adr X.G a 0 0)), (2, .ref (adr X.G a 6 0)), (3, .int x3)] [] ce sl := by
  unfold w_L_law_1610 at h
  refine k_aload_n hC (pc := 1610) dL_law_1610 1 rfl ?_
  refine k_aload_n hC (pc := 1611) dL_law_1611 0 rfl ?_
  refine k_iload_n hC (pc := 1612) dL_law_1612 3 rfl ?_
  refine k_iconst hC (pc := 1613) (v := 1) dL_law_1613 ic_1 ?_
  refine k_iadd hC (pc := 1614) dL_law_1614 ?_
  obtain ⟨c_439, h⟩ := h
  refine k_sld hC (pc := 1615) hX c_439 dL_law_1615 ?_
  refine k_aload_n hC (pc := 1616) dL_law_1616 0 rfl ?_
  refine k_iload_n hC (pc := 1617) dL_law_1617 3 rfl ?_
  refine k_iconst hC (pc := 1618) (v := 2) dL_law_1618 ic_2 ?_
  refine k_iadd hC (pc := 1619) dL_law_1619 ?_
  obtain ⟨c_440, h⟩ := h
  refine k_sld hC (pc := 1620) hX c_440 dL_law_1620 ?_
  refine k_aload_n hC (pc := 1621) dL_law_1621 0 rfl ?_
  refine k_iload_n hC (pc := 1622) dL_law_1622 3 rfl ?_
  refine k_iconst hC (pc := 1623) (v := 3) dL_law_1623 ic_3 ?_
  refine k_iadd hC (pc := 1624) dL_law_1624 ?_
  obtain ⟨c_441, h⟩ := h
  refine k_sld hC (pc := 1625) hX c_441 dL_law_1625 ?_
  refine k_ci (rn_V hC (pc := 1626) (As := [.int (xs (x3 + 1).toNatClampNeg), .int (xs (x3 + 2).toNatClampNeg), .int (xs (x3 + 3).toNatClampNeg)]) (rest := []) ca_X11_sheet ml_RL_167 im_X11_sheet se_X11_sheet (fx_in f0_0) (ob0_0 _ _ _ _ _) rfl rfl (ct_X11_sheet (xs (x3 + 1).toNatClampNeg) (xs (x3 + 2).toNatClampNeg) (xs (x3 + 3).toNatClampNeg) h) (by rw [hR]; exact ⟨rfl, rfl, by decide, by decide⟩) rfl (Nat.le_of_ble_eq_true rfl) dL_law_1626 ⟨by omega, by omega⟩) (fun r_443 s_442 h => ?_)
  refine k_aload_n hC (pc := 1629) dL_law_1629 2 rfl ?_
  refine k_aload_n hC (pc := 1630) dL_law_1630 0 rfl ?_
  refine k_iload_n hC (pc := 1631) dL_law_1631 3 rfl ?_
  refine k_iconst hC (pc := 1632) (v := 1) dL_law_1632 ic_1 ?_
  refine k_iadd hC (pc := 1633) dL_law_1633 ?_
  obtain ⟨c_444, h⟩ := h
  refine k_sld hC (pc := 1634) hX c_444 dL_law_1634 ?_
  refine k_aload_n hC (pc := 1635) dL_law_1635 0 rfl ?_
  refine k_iload_n hC (pc := 1636) dL_law_1636 3 rfl ?_
  refine k_iconst hC (pc := 1637) (v := 2) dL_law_1637 ic_2 ?_
  refine k_iadd hC (pc := 1638) dL_law_1638 ?_
  obtain ⟨c_445, h⟩ := h
  refine k_sld hC (pc := 1639) hX c_445 dL_law_1639 ?_
  refine k_aload_n hC (pc := 1640) dL_law_1640 0 rfl ?_
  refine k_iload_n hC (pc := 1641) dL_law_1641 3 rfl ?_
  refine k_iconst hC (pc := 1642) (v := 3) dL_law_1642 ic_3 ?_
  refine k_iadd hC (pc := 1643) dL_law_1643 ?_
  obtain ⟨c_446, h⟩ := h
  refine k_sld hC (pc := 1644) hX c_446 dL_law_1644 ?_
  refine k_ci (rn_V hC (pc := 1645) (As := [.int (xs (x3 + 1).toNatClampNeg), .int (xs (x3 + 2).toNatClampNeg), .int (xs (x3 + 3).toNatClampNeg)]) (rest := [.int r_443]) ca_X12_sheet ml_RL_170 im_X12_sheet se_X12_sheet (fx_in f6_0) (ob6_0 _ _ _ _ _) rfl rfl (ct_X12_sheet (xs (x3 + 1).toNatClampNeg) (xs (x3 + 2).toNatClampNeg) (xs (x3 + 3).toNatClampNeg) h) (by rw [hR]; exact ⟨rfl, rfl, by decide, by decide⟩) rfl (Nat.le_of_ble_eq_true rfl) dL_law_1645 ⟨by omega, by omega⟩) (fun r_448 s_447 h => ?_)
  refine k_icmp_eq hC (pc := 1648) 1891 dL_law_1648 (by decide) (fun c_449 => ?_) (fun c_449 => ?_)
  · have h := h.1 c_449
    obtain ⟨x_450, h_x_450⟩ : ∃ z : Int32, z = x3 + 6 := ⟨_, rfl⟩
    have h := h x_450 h_x_450
    refine k_iincw hC (pc := 1891) dL_law_1891 3 rfl ic_6 h_x_450.symm [(3, .int x_450), (0, .ref b), (1, .ref (adr X.G a 0 0)), (2, .ref (adr X.G a 6 0))] (by decide) rfl ?_
    refine k_goto hC (pc := 1894) 18 dL_law_1894 (by decide) ?_
    refine k_sub [(0, .ref b), (1, .ref (adr X.G a 0 0)), (2, .ref (adr X.G a 6 0)), (3, .int x_450)] [1, 2, 3, 0] rfl ?_
    refine k_widen (ce + 2) (sl + 19) (by omega) (by omega) ?_
    exact hK18 _ _ _ h
  · have h := h.2 c_449
    refine k_iconst hC (pc := 1651) (v := 0) dL_law_1651 ic_0 ?_
    exact k_lawret hC (pc := 1652) hR hQ hr hX (by rw [hR] at hce; simp only [room_1] at hce; omega) (by rw [hR] at hsl; simp only [room_1] at hsl; omega) dL_law_1652 h
set_option maxHeartbeats 4000000 in
theorem b_L_law_1653 {X : Kx} {N L b : Nat} {xs : Nat → Int32} {ce sl : Nat} {K18 : Sx → Int32 → Prop}  (hC : Cx X cL_law 4 RL) (hR : X.R = room_1) (hQ : X.Q = lw_Z X.below X.av X.s) (hr : X.meth.sig.returnType = some .boolean) (hX : lw_X X b L xs) (hce : ce + 2 ≤ X.R.cells) (hsl : sl + 19 ≤ X.R.slots) (hK18 : ∀ (a : Ax) (s : Sx) (x3 : Int32), K18 s x3 → wk X a s 4 18 [(0, .ref b), (1, .ref (adr X.G a 0 0)), (2, .ref (adr X.G a 6 0)), (3, .int x3)] [] (ce + 2) (sl + 19)) (a : Ax) (s : Sx) (x3 : Int32) (h : w_L_law_1653 N L xs K18 s x3) : wk X a s 4 1653 [(0, .ref b), (1, .ref (adr X.G a 0 0)), (2, .ref (adr X.G a 6 0)), (3, .int x3)] [] ce sl := by
  unfold w_L_law_1653 at h
  refine k_aload_n hC (pc := 1653) dL_law_1653 1 rfl ?_
  refine k_aload_n hC (pc := 1654) dL_law_1654 0 rfl ?_
  refine k_iload_n hC (pc := 1655) dL_law_1655 3 rfl ?_
  refine k_iconst hC (pc := 1656) (v := 1) dL_law_1656 ic_1 ?_
  refine k_iadd hC (pc := 1657) dL_law_1657 ?_
  obtain ⟨c_452, h⟩ := h
  refine k_sld hC (pc := 1658) hX c_452 dL_law_1658 ?_
  refine k_ci (rn_V hC (pc := 1659) (As := [.int (xs (x3 + 1).toNatClampNeg)]) (rest := []) ca_X11_lose ml_RL_171 im_X11_lose se_X11_lose (fx_in f0_0) (ob0_0 _ _ _ _ _) rfl rfl (ct_X11_lose (xs (x3 + 1).toNatClampNeg) h) (by rw [hR]; exact ⟨rfl, rfl, by decide, by decide⟩) rfl (Nat.le_of_ble_eq_true rfl) dL_law_1659 ⟨by omega, by omega⟩) (fun r_454 s_453 h => ?_)
  refine k_aload_n hC (pc := 1662) dL_law_1662 2 rfl ?_
  refine k_aload_n hC (pc := 1663) dL_law_1663 0 rfl ?_
  refine k_iload_n hC (pc := 1664) dL_law_1664 3 rfl ?_
  refine k_iconst hC (pc := 1665) (v := 1) dL_law_1665 ic_1 ?_
  refine k_iadd hC (pc := 1666) dL_law_1666 ?_
  obtain ⟨c_455, h⟩ := h
  refine k_sld hC (pc := 1667) hX c_455 dL_law_1667 ?_
  refine k_ci (rn_V hC (pc := 1668) (As := [.int (xs (x3 + 1).toNatClampNeg)]) (rest := [.int r_454]) ca_X12_lose ml_RL_174 im_X12_lose se_X12_lose (fx_in f6_0) (ob6_0 _ _ _ _ _) rfl rfl (ct_X12_lose (xs (x3 + 1).toNatClampNeg) h) (by rw [hR]; exact ⟨rfl, rfl, by decide, by decide⟩) rfl (Nat.le_of_ble_eq_true rfl) dL_law_1668 ⟨by omega, by omega⟩) (fun r_457 s_456 h => ?_)
  refine k_icmp_eq hC (pc := 1671) 1891 dL_law_1671 (by decide) (fun c_458 => ?_) (fun c_458 => ?_)
  · have h := h.1 c_458
    obtain ⟨x_459, h_x_459⟩ : ∃ z : Int32, z = x3 + 6 := ⟨_, rfl⟩
    have h := h x_459 h_x_459
    refine k_iincw hC (pc := 1891) dL_law_1891 3 rfl ic_6 h_x_459.symm [(3, .int x_459), (0, .ref b), (1, .ref (adr X.G a 0 0)), (2, .ref (adr X.G a 6 0))] (by decide) rfl ?_
    refine k_goto hC (pc := 1894) 18 dL_law_1894 (by decide) ?_
    refine k_sub [(0, .ref b), (1, .ref (adr X.G a 0 0)), (2, .ref (adr X.G a 6 0)), (3, .int x_459)] [1, 2, 3, 0] rfl ?_
    refine k_widen (ce + 2) (sl + 19) (by omega) (by omega) ?_
    exact hK18 _ _ _ h
  · have h := h.2 c_458
    refine k_iconst hC (pc := 1674) (v := 0) dL_law_1674 ic_0 ?_
    exact k_lawret hC (pc := 1675) hR hQ hr hX (by rw [hR] at hce; simp only [room_1] at hce; omega) (by rw [hR] at hsl; simp only [room_1] at hsl; omega) dL_law_1675 h
set_option maxHeartbeats 4000000 in
theorem b_L_law_1676 {X : Kx} {N L b : Nat} {xs : Nat → Int32} {ce sl : Nat} {K18 : Sx → Int32 → Prop}  (hC : Cx X cL_law 4 RL) (hR : X.R = room_1) (hQ : X.Q = lw_Z X.below X.av X.s) (hr : X.meth.sig.returnType = some .boolean) (hX : lw_X X b L xs) (hce : ce + 2 ≤ X.R.cells) (hsl : sl + 19 ≤ X.R.slots) (hK18 : ∀ (a : Ax) (s : Sx) (x3 : Int32), K18 s x3 → wk X a s 4 18 [(0, .ref b), (1, .ref (adr X.G a 0 0)), (2, .ref (adr X.G a 6 0)), (3, .int x3)] [] (ce + 2) (sl + 19)) (a : Ax) (s : Sx) (x3 : Int32) (h : w_L_law_1676 N L xs K18 s x3) : wk X a s 4 1676 [(0, .ref b), (1, .ref (adr X.G a 0 0)), (2, .ref (adr X.G a 6 0)), (3, .int x3)] [] ce sl := by
  unfold w_L_law_1676 at h
  refine k_aload_n hC (pc := 1676) dL_law_1676 1 rfl ?_
  refine k_aload_n hC (pc := 1677) dL_law_1677 0 rfl ?_
  refine k_iload_n hC (pc := 1678) dL_law_1678 3 rfl ?_
  refine k_iconst hC (pc := 1679) (v := 1) dL_law_1679 ic_1 ?_
  refine k_iadd hC (pc := 1680) dL_law_1680 ?_
  obtain ⟨c_461, h⟩ := h
  refine k_sld hC (pc := 1681) hX c_461 dL_law_1681 ?_
  refine k_aload_n hC (pc := 1682) dL_law_1682 0 rfl ?_
  refine k_iload_n hC (pc := 1683) dL_law_1683 3 rfl ?_
  refine k_iconst hC (pc := 1684) (v := 2) dL_law_1684 ic_2 ?_
  refine k_iadd hC (pc := 1685) dL_law_1685 ?_
  obtain ⟨c_462, h⟩ := h
  refine k_sld hC (pc := 1686) hX c_462 dL_law_1686 ?_
  refine k_aload_n hC (pc := 1687) dL_law_1687 0 rfl ?_
  refine k_iload_n hC (pc := 1688) dL_law_1688 3 rfl ?_
  refine k_iconst hC (pc := 1689) (v := 3) dL_law_1689 ic_3 ?_
  refine k_iadd hC (pc := 1690) dL_law_1690 ?_
  obtain ⟨c_463, h⟩ := h
  refine k_sld hC (pc := 1691) hX c_463 dL_law_1691 ?_
  refine k_ci (rn_V hC (pc := 1692) (As := [.int (xs (x3 + 1).toNatClampNeg), .int (xs (x3 + 2).toNatClampNeg), .int (xs (x3 + 3).toNatClampNeg)]) (rest := []) ca_X11_put ml_RL_175 im_X11_put se_X11_put (fx_in f0_0) (ob0_0 _ _ _ _ _) rfl rfl (ct_X11_put (xs (x3 + 1).toNatClampNeg) (xs (x3 + 2).toNatClampNeg) (xs (x3 + 3).toNatClampNeg) h) (by rw [hR]; exact ⟨rfl, rfl, by decide, by decide⟩) rfl (Nat.le_of_ble_eq_true rfl) dL_law_1692 ⟨by omega, by omega⟩) (fun r_465 s_464 h => ?_)
  refine k_aload_n hC (pc := 1695) dL_law_1695 2 rfl ?_
  refine k_aload_n hC (pc := 1696) dL_law_1696 0 rfl ?_
  refine k_iload_n hC (pc := 1697) dL_law_1697 3 rfl ?_
  refine k_iconst hC (pc := 1698) (v := 1) dL_law_1698 ic_1 ?_
  refine k_iadd hC (pc := 1699) dL_law_1699 ?_
  obtain ⟨c_466, h⟩ := h
  refine k_sld hC (pc := 1700) hX c_466 dL_law_1700 ?_
  refine k_aload_n hC (pc := 1701) dL_law_1701 0 rfl ?_
  refine k_iload_n hC (pc := 1702) dL_law_1702 3 rfl ?_
  refine k_iconst hC (pc := 1703) (v := 2) dL_law_1703 ic_2 ?_
  refine k_iadd hC (pc := 1704) dL_law_1704 ?_
  obtain ⟨c_467, h⟩ := h
  refine k_sld hC (pc := 1705) hX c_467 dL_law_1705 ?_
  refine k_aload_n hC (pc := 1706) dL_law_1706 0 rfl ?_
  refine k_iload_n hC (pc := 1707) dL_law_1707 3 rfl ?_
  refine k_iconst hC (pc := 1708) (v := 3) dL_law_1708 ic_3 ?_
  refine k_iadd hC (pc := 1709) dL_law_1709 ?_
  obtain ⟨c_468, h⟩ := h
  refine k_sld hC (pc := 1710) hX c_468 dL_law_1710 ?_
  refine k_ci (rn_V hC (pc := 1711) (As := [.int (xs (x3 + 1).toNatClampNeg), .int (xs (x3 + 2).toNatClampNeg), .int (xs (x3 + 3).toNatClampNeg)]) (rest := [.int r_465]) ca_X12_put ml_RL_178 im_X12_put se_X12_put (fx_in f6_0) (ob6_0 _ _ _ _ _) rfl rfl (ct_X12_put (xs (x3 + 1).toNatClampNeg) (xs (x3 + 2).toNatClampNeg) (xs (x3 + 3).toNatClampNeg) h) (by rw [hR]; exact ⟨rfl, rfl, by decide, by decide⟩) rfl (Nat.le_of_ble_eq_true rfl) dL_law_1711 ⟨by omega, by omega⟩) (fun r_470 s_469 h => ?_)
  refine k_icmp_eq hC (pc := 1714) 1891 dL_law_1714 (by decide) (fun c_471 => ?_) (fun c_471 => ?_)
  · have h := h.1 c_471
    obtain ⟨x_472, h_x_472⟩ : ∃ z : Int32, z = x3 + 6 := ⟨_, rfl⟩
    have h := h x_472 h_x_472
    refine k_iincw hC (pc := 1891) dL_law_1891 3 rfl ic_6 h_x_472.symm [(3, .int x_472), (0, .ref b), (1, .ref (adr X.G a 0 0)), (2, .ref (adr X.G a 6 0))] (by decide) rfl ?_
    refine k_goto hC (pc := 1894) 18 dL_law_1894 (by decide) ?_
    refine k_sub [(0, .ref b), (1, .ref (adr X.G a 0 0)), (2, .ref (adr X.G a 6 0)), (3, .int x_472)] [1, 2, 3, 0] rfl ?_
    refine k_widen (ce + 2) (sl + 19) (by omega) (by omega) ?_
    exact hK18 _ _ _ h
  · have h := h.2 c_471
    refine k_iconst hC (pc := 1717) (v := 0) dL_law_1717 ic_0 ?_
    exact k_lawret hC (pc := 1718) hR hQ hr hX (by rw [hR] at hce; simp only [room_1] at hce; omega) (by rw [hR] at hsl; simp only [room_1] at hsl; omega) dL_law_1718 h
set_option maxHeartbeats 4000000 in
theorem b_L_law_1719 {X : Kx} {N L b : Nat} {xs : Nat → Int32} {ce sl : Nat} {K18 : Sx → Int32 → Prop}  (hC : Cx X cL_law 4 RL) (hR : X.R = room_1) (hQ : X.Q = lw_Z X.below X.av X.s) (hr : X.meth.sig.returnType = some .boolean) (hX : lw_X X b L xs) (hce : ce + 2 ≤ X.R.cells) (hsl : sl + 19 ≤ X.R.slots) (hK18 : ∀ (a : Ax) (s : Sx) (x3 : Int32), K18 s x3 → wk X a s 4 18 [(0, .ref b), (1, .ref (adr X.G a 0 0)), (2, .ref (adr X.G a 6 0)), (3, .int x3)] [] (ce + 2) (sl + 19)) (a : Ax) (s : Sx) (x3 : Int32) (h : w_L_law_1719 N L xs K18 s x3) : wk X a s 4 1719 [(0, .ref b), (1, .ref (adr X.G a 0 0)), (2, .ref (adr X.G a 6 0)), (3, .int x3)] [] ce sl := by
  unfold w_L_law_1719 at h
  refine k_aload_n hC (pc := 1719) dL_law_1719 1 rfl ?_
  refine k_aload_n hC (pc := 1720) dL_law_1720 0 rfl ?_
  refine k_iload_n hC (pc := 1721) dL_law_1721 3 rfl ?_
  refine k_iconst hC (pc := 1722) (v := 1) dL_law_1722 ic_1 ?_
  refine k_iadd hC (pc := 1723) dL_law_1723 ?_
  obtain ⟨c_474, h⟩ := h
  refine k_sld hC (pc := 1724) hX c_474 dL_law_1724 ?_
  refine k_aload_n hC (pc := 1725) dL_law_1725 0 rfl ?_
  refine k_iload_n hC (pc := 1726) dL_law_1726 3 rfl ?_
  refine k_iconst hC (pc := 1727) (v := 2) dL_law_1727 ic_2 ?_
  refine k_iadd hC (pc := 1728) dL_law_1728 ?_
  obtain ⟨c_475, h⟩ := h
  refine k_sld hC (pc := 1729) hX c_475 dL_law_1729 ?_
  refine k_aload_n hC (pc := 1730) dL_law_1730 0 rfl ?_
  refine k_iload_n hC (pc := 1731) dL_law_1731 3 rfl ?_
  refine k_iconst hC (pc := 1732) (v := 3) dL_law_1732 ic_3 ?_
  refine k_iadd hC (pc := 1733) dL_law_1733 ?_
  obtain ⟨c_476, h⟩ := h
  refine k_sld hC (pc := 1734) hX c_476 dL_law_1734 ?_
  refine k_cl (rn_V hC (pc := 1735) (As := [.int (xs (x3 + 1).toNatClampNeg), .int (xs (x3 + 2).toNatClampNeg), .int (xs (x3 + 3).toNatClampNeg)]) (rest := []) ca_X11_cell ml_RL_179 im_X11_cell se_X11_cell (fx_in f0_0) (ob0_0 _ _ _ _ _) rfl rfl (ct_X11_cell (xs (x3 + 1).toNatClampNeg) (xs (x3 + 2).toNatClampNeg) (xs (x3 + 3).toNatClampNeg) h) (by rw [hR]; exact ⟨rfl, rfl, by decide, by decide⟩) rfl (Nat.le_of_ble_eq_true rfl) dL_law_1735 ⟨by omega, by omega⟩) (fun r_478 s_477 h => ?_)
  refine k_aload_n hC (pc := 1738) dL_law_1738 2 rfl ?_
  refine k_aload_n hC (pc := 1739) dL_law_1739 0 rfl ?_
  refine k_iload_n hC (pc := 1740) dL_law_1740 3 rfl ?_
  refine k_iconst hC (pc := 1741) (v := 1) dL_law_1741 ic_1 ?_
  refine k_iadd hC (pc := 1742) dL_law_1742 ?_
  obtain ⟨c_479, h⟩ := h
  refine k_sld hC (pc := 1743) hX c_479 dL_law_1743 ?_
  refine k_aload_n hC (pc := 1744) dL_law_1744 0 rfl ?_
  refine k_iload_n hC (pc := 1745) dL_law_1745 3 rfl ?_
  refine k_iconst hC (pc := 1746) (v := 2) dL_law_1746 ic_2 ?_
  refine k_iadd hC (pc := 1747) dL_law_1747 ?_
  obtain ⟨c_480, h⟩ := h
  refine k_sld hC (pc := 1748) hX c_480 dL_law_1748 ?_
  refine k_aload_n hC (pc := 1749) dL_law_1749 0 rfl ?_
  refine k_iload_n hC (pc := 1750) dL_law_1750 3 rfl ?_
  refine k_iconst hC (pc := 1751) (v := 3) dL_law_1751 ic_3 ?_
  refine k_iadd hC (pc := 1752) dL_law_1752 ?_
  obtain ⟨c_481, h⟩ := h
  refine k_sld hC (pc := 1753) hX c_481 dL_law_1753 ?_
  refine k_cl (rn_V hC (pc := 1754) (As := [.int (xs (x3 + 1).toNatClampNeg), .int (xs (x3 + 2).toNatClampNeg), .int (xs (x3 + 3).toNatClampNeg)]) (rest := [.long r_478]) ca_X12_cell ml_RL_183 im_X12_cell se_X12_cell (fx_in f6_0) (ob6_0 _ _ _ _ _) rfl rfl (ct_X12_cell (xs (x3 + 1).toNatClampNeg) (xs (x3 + 2).toNatClampNeg) (xs (x3 + 3).toNatClampNeg) h) (by rw [hR]; exact ⟨rfl, rfl, by decide, by decide⟩) rfl (Nat.le_of_ble_eq_true rfl) dL_law_1754 ⟨by omega, by omega⟩) (fun r_483 s_482 h => ?_)
  refine k_lcmp hC (pc := 1757) dL_law_1757 ?_
  refine k_if_eq hC (pc := 1758) 1891 dL_law_1758 (by decide) (fun c_484 => ?_) (fun c_484 => ?_)
  · have h := h.1 c_484
    obtain ⟨x_485, h_x_485⟩ : ∃ z : Int32, z = x3 + 6 := ⟨_, rfl⟩
    have h := h x_485 h_x_485
    refine k_iincw hC (pc := 1891) dL_law_1891 3 rfl ic_6 h_x_485.symm [(3, .int x_485), (0, .ref b), (1, .ref (adr X.G a 0 0)), (2, .ref (adr X.G a 6 0))] (by decide) rfl ?_
    refine k_goto hC (pc := 1894) 18 dL_law_1894 (by decide) ?_
    refine k_sub [(0, .ref b), (1, .ref (adr X.G a 0 0)), (2, .ref (adr X.G a 6 0)), (3, .int x_485)] [1, 2, 3, 0] rfl ?_
    refine k_widen (ce + 2) (sl + 19) (by omega) (by omega) ?_
    exact hK18 _ _ _ h
  · have h := h.2 c_484
    refine k_iconst hC (pc := 1761) (v := 0) dL_law_1761 ic_0 ?_
    exact k_lawret hC (pc := 1762) hR hQ hr hX (by rw [hR] at hce; simp only [room_1] at hce; omega) (by rw [hR] at hsl; simp only [room_1] at hsl; omega) dL_law_1762 h
set_option maxHeartbeats 4000000 in
theorem b_L_law_1763 {X : Kx} {N L b : Nat} {xs : Nat → Int32} {ce sl : Nat} {K18 : Sx → Int32 → Prop}  (hC : Cx X cL_law 4 RL) (hR : X.R = room_1) (hQ : X.Q = lw_Z X.below X.av X.s) (hr : X.meth.sig.returnType = some .boolean) (hX : lw_X X b L xs) (hce : ce + 2 ≤ X.R.cells) (hsl : sl + 19 ≤ X.R.slots) (hK18 : ∀ (a : Ax) (s : Sx) (x3 : Int32), K18 s x3 → wk X a s 4 18 [(0, .ref b), (1, .ref (adr X.G a 0 0)), (2, .ref (adr X.G a 6 0)), (3, .int x3)] [] (ce + 2) (sl + 19)) (a : Ax) (s : Sx) (x3 : Int32) (h : w_L_law_1763 N L xs K18 s x3) : wk X a s 4 1763 [(0, .ref b), (1, .ref (adr X.G a 0 0)), (2, .ref (adr X.G a 6 0)), (3, .int x3)] [] ce sl := by
  unfold w_L_law_1763 at h
  refine k_aload_n hC (pc := 1763) dL_law_1763 1 rfl ?_
  refine k_aload_n hC (pc := 1764) dL_law_1764 0 rfl ?_
  refine k_iload_n hC (pc := 1765) dL_law_1765 3 rfl ?_
  refine k_iconst hC (pc := 1766) (v := 1) dL_law_1766 ic_1 ?_
  refine k_iadd hC (pc := 1767) dL_law_1767 ?_
  obtain ⟨c_487, h⟩ := h
  refine k_sld hC (pc := 1768) hX c_487 dL_law_1768 ?_
  refine k_ci (rn_V hC (pc := 1769) (As := [.int (xs (x3 + 1).toNatClampNeg)]) (rest := []) ca_X11_tell ml_RL_184 im_X11_tell se_X11_tell (fx_in f0_0) (ob0_0 _ _ _ _ _) rfl rfl (ct_X11_tell (xs (x3 + 1).toNatClampNeg) h) (by rw [hR]; exact ⟨rfl, rfl, by decide, by decide⟩) rfl (Nat.le_of_ble_eq_true rfl) dL_law_1769 ⟨by omega, by omega⟩) (fun r_489 s_488 h => ?_)
  refine k_aload_n hC (pc := 1772) dL_law_1772 2 rfl ?_
  refine k_aload_n hC (pc := 1773) dL_law_1773 0 rfl ?_
  refine k_iload_n hC (pc := 1774) dL_law_1774 3 rfl ?_
  refine k_iconst hC (pc := 1775) (v := 1) dL_law_1775 ic_1 ?_
  refine k_iadd hC (pc := 1776) dL_law_1776 ?_
  obtain ⟨c_490, h⟩ := h
  refine k_sld hC (pc := 1777) hX c_490 dL_law_1777 ?_
  refine k_ci (rn_V hC (pc := 1778) (As := [.int (xs (x3 + 1).toNatClampNeg)]) (rest := [.int r_489]) ca_X12_tell ml_RL_187 im_X12_tell se_X12_tell (fx_in f6_0) (ob6_0 _ _ _ _ _) rfl rfl (ct_X12_tell (xs (x3 + 1).toNatClampNeg) h) (by rw [hR]; exact ⟨rfl, rfl, by decide, by decide⟩) rfl (Nat.le_of_ble_eq_true rfl) dL_law_1778 ⟨by omega, by omega⟩) (fun r_492 s_491 h => ?_)
  refine k_icmp_eq hC (pc := 1781) 1891 dL_law_1781 (by decide) (fun c_493 => ?_) (fun c_493 => ?_)
  · have h := h.1 c_493
    obtain ⟨x_494, h_x_494⟩ : ∃ z : Int32, z = x3 + 6 := ⟨_, rfl⟩
    have h := h x_494 h_x_494
    refine k_iincw hC (pc := 1891) dL_law_1891 3 rfl ic_6 h_x_494.symm [(3, .int x_494), (0, .ref b), (1, .ref (adr X.G a 0 0)), (2, .ref (adr X.G a 6 0))] (by decide) rfl ?_
    refine k_goto hC (pc := 1894) 18 dL_law_1894 (by decide) ?_
    refine k_sub [(0, .ref b), (1, .ref (adr X.G a 0 0)), (2, .ref (adr X.G a 6 0)), (3, .int x_494)] [1, 2, 3, 0] rfl ?_
    refine k_widen (ce + 2) (sl + 19) (by omega) (by omega) ?_
    exact hK18 _ _ _ h
  · have h := h.2 c_493
    refine k_iconst hC (pc := 1784) (v := 0) dL_law_1784 ic_0 ?_
    exact k_lawret hC (pc := 1785) hR hQ hr hX (by rw [hR] at hce; simp only [room_1] at hce; omega) (by rw [hR] at hsl; simp only [room_1] at hsl; omega) dL_law_1785 h
set_option maxHeartbeats 4000000 in
theorem b_L_law_1786 {X : Kx} {N L b : Nat} {xs : Nat → Int32} {ce sl : Nat} {K18 : Sx → Int32 → Prop}  (hC : Cx X cL_law 4 RL) (hR : X.R = room_1) (hQ : X.Q = lw_Z X.below X.av X.s) (hr : X.meth.sig.returnType = some .boolean) (hX : lw_X X b L xs) (hce : ce + 2 ≤ X.R.cells) (hsl : sl + 19 ≤ X.R.slots) (hK18 : ∀ (a : Ax) (s : Sx) (x3 : Int32), K18 s x3 → wk X a s 4 18 [(0, .ref b), (1, .ref (adr X.G a 0 0)), (2, .ref (adr X.G a 6 0)), (3, .int x3)] [] (ce + 2) (sl + 19)) (a : Ax) (s : Sx) (x3 : Int32) (h : w_L_law_1786 N L xs K18 s x3) : wk X a s 4 1786 [(0, .ref b), (1, .ref (adr X.G a 0 0)), (2, .ref (adr X.G a 6 0)), (3, .int x3)] [] ce sl := by
  unfold w_L_law_1786 at h
  refine k_aload_n hC (pc := 1786) dL_law_1786 1 rfl ?_
  refine k_aload_n hC (pc := 1787) dL_law_1787 0 rfl ?_
  refine k_iload_n hC (pc := 1788) dL_law_1788 3 rfl ?_
  refine k_iconst hC (pc := 1789) (v := 1) dL_law_1789 ic_1 ?_
  refine k_iadd hC (pc := 1790) dL_law_1790 ?_
  obtain ⟨c_496, h⟩ := h
  refine k_sld hC (pc := 1791) hX c_496 dL_law_1791 ?_
  refine k_ci (rn_V hC (pc := 1792) (As := [.int (xs (x3 + 1).toNatClampNeg)]) (rest := []) ca_X11_roll ml_RL_188 im_X11_roll se_X11_roll (fx_in f0_0) (ob0_0 _ _ _ _ _) rfl rfl (ct_X11_roll (xs (x3 + 1).toNatClampNeg) h) (by rw [hR]; exact ⟨rfl, rfl, by decide, by decide⟩) rfl (Nat.le_of_ble_eq_true rfl) dL_law_1792 ⟨by omega, by omega⟩) (fun r_498 s_497 h => ?_)
  refine k_aload_n hC (pc := 1795) dL_law_1795 2 rfl ?_
  refine k_aload_n hC (pc := 1796) dL_law_1796 0 rfl ?_
  refine k_iload_n hC (pc := 1797) dL_law_1797 3 rfl ?_
  refine k_iconst hC (pc := 1798) (v := 1) dL_law_1798 ic_1 ?_
  refine k_iadd hC (pc := 1799) dL_law_1799 ?_
  obtain ⟨c_499, h⟩ := h
  refine k_sld hC (pc := 1800) hX c_499 dL_law_1800 ?_
  refine k_ci (rn_V hC (pc := 1801) (As := [.int (xs (x3 + 1).toNatClampNeg)]) (rest := [.int r_498]) ca_X12_roll ml_RL_191 im_X12_roll se_X12_roll (fx_in f6_0) (ob6_0 _ _ _ _ _) rfl rfl (ct_X12_roll (xs (x3 + 1).toNatClampNeg) h) (by rw [hR]; exact ⟨rfl, rfl, by decide, by decide⟩) rfl (Nat.le_of_ble_eq_true rfl) dL_law_1801 ⟨by omega, by omega⟩) (fun r_501 s_500 h => ?_)
  refine k_icmp_eq hC (pc := 1804) 1891 dL_law_1804 (by decide) (fun c_502 => ?_) (fun c_502 => ?_)
  · have h := h.1 c_502
    obtain ⟨x_503, h_x_503⟩ : ∃ z : Int32, z = x3 + 6 := ⟨_, rfl⟩
    have h := h x_503 h_x_503
    refine k_iincw hC (pc := 1891) dL_law_1891 3 rfl ic_6 h_x_503.symm [(3, .int x_503), (0, .ref b), (1, .ref (adr X.G a 0 0)), (2, .ref (adr X.G a 6 0))] (by decide) rfl ?_
    refine k_goto hC (pc := 1894) 18 dL_law_1894 (by decide) ?_
    refine k_sub [(0, .ref b), (1, .ref (adr X.G a 0 0)), (2, .ref (adr X.G a 6 0)), (3, .int x_503)] [1, 2, 3, 0] rfl ?_
    refine k_widen (ce + 2) (sl + 19) (by omega) (by omega) ?_
    exact hK18 _ _ _ h
  · have h := h.2 c_502
    refine k_iconst hC (pc := 1807) (v := 0) dL_law_1807 ic_0 ?_
    exact k_lawret hC (pc := 1808) hR hQ hr hX (by rw [hR] at hce; simp only [room_1] at hce; omega) (by rw [hR] at hsl; simp only [room_1] at hsl; omega) dL_law_1808 h
set_option maxHeartbeats 4000000 in
theorem b_L_law_1809 {X : Kx} {N L b : Nat} {xs : Nat → Int32} {ce sl : Nat} {K18 : Sx → Int32 → Prop}  (hC : Cx X cL_law 4 RL) (hR : X.R = room_1) (hQ : X.Q = lw_Z X.below X.av X.s) (hr : X.meth.sig.returnType = some .boolean) (hX : lw_X X b L xs) (hce : ce + 2 ≤ X.R.cells) (hsl : sl + 19 ≤ X.R.slots) (hK18 : ∀ (a : Ax) (s : Sx) (x3 : Int32), K18 s x3 → wk X a s 4 18 [(0, .ref b), (1, .ref (adr X.G a 0 0)), (2, .ref (adr X.G a 6 0)), (3, .int x3)] [] (ce + 2) (sl + 19)) (a : Ax) (s : Sx) (x3 : Int32) (h : w_L_law_1809 N L xs K18 s x3) : wk X a s 4 1809 [(0, .ref b), (1, .ref (adr X.G a 0 0)), (2, .ref (adr X.G a 6 0)), (3, .int x3)] [] ce sl := by
  unfold w_L_law_1809 at h
  refine k_aload_n hC (pc := 1809) dL_law_1809 1 rfl ?_
  refine k_aload_n hC (pc := 1810) dL_law_1810 0 rfl ?_
  refine k_iload_n hC (pc := 1811) dL_law_1811 3 rfl ?_
  refine k_iconst hC (pc := 1812) (v := 1) dL_law_1812 ic_1 ?_
  refine k_iadd hC (pc := 1813) dL_law_1813 ?_
  obtain ⟨c_505, h⟩ := h
  refine k_sld hC (pc := 1814) hX c_505 dL_law_1814 ?_
  refine k_aload_n hC (pc := 1815) dL_law_1815 0 rfl ?_
  refine k_iload_n hC (pc := 1816) dL_law_1816 3 rfl ?_
  refine k_iconst hC (pc := 1817) (v := 2) dL_law_1817 ic_2 ?_
  refine k_iadd hC (pc := 1818) dL_law_1818 ?_
  obtain ⟨c_506, h⟩ := h
  refine k_sld hC (pc := 1819) hX c_506 dL_law_1819 ?_
  refine k_ci (rn_V hC (pc := 1820) (As := [.int (xs (x3 + 1).toNatClampNeg), .int (xs (x3 + 2).toNatClampNeg)]) (rest := []) ca_X11_as ml_RL_192 im_X11_as se_X11_as (fx_in f0_0) (ob0_0 _ _ _ _ _) rfl rfl (ct_X11_as (xs (x3 + 1).toNatClampNeg) (xs (x3 + 2).toNatClampNeg) h) (by rw [hR]; exact ⟨rfl, rfl, by decide, by decide⟩) rfl (Nat.le_of_ble_eq_true rfl) dL_law_1820 ⟨by omega, by omega⟩) (fun r_508 s_507 h => ?_)
  refine k_aload_n hC (pc := 1823) dL_law_1823 2 rfl ?_
  refine k_aload_n hC (pc := 1824) dL_law_1824 0 rfl ?_
  refine k_iload_n hC (pc := 1825) dL_law_1825 3 rfl ?_
  refine k_iconst hC (pc := 1826) (v := 1) dL_law_1826 ic_1 ?_
  refine k_iadd hC (pc := 1827) dL_law_1827 ?_
  obtain ⟨c_509, h⟩ := h
  refine k_sld hC (pc := 1828) hX c_509 dL_law_1828 ?_
  refine k_aload_n hC (pc := 1829) dL_law_1829 0 rfl ?_
  refine k_iload_n hC (pc := 1830) dL_law_1830 3 rfl ?_
  refine k_iconst hC (pc := 1831) (v := 2) dL_law_1831 ic_2 ?_
  refine k_iadd hC (pc := 1832) dL_law_1832 ?_
  obtain ⟨c_510, h⟩ := h
  refine k_sld hC (pc := 1833) hX c_510 dL_law_1833 ?_
  refine k_ci (rn_V hC (pc := 1834) (As := [.int (xs (x3 + 1).toNatClampNeg), .int (xs (x3 + 2).toNatClampNeg)]) (rest := [.int r_508]) ca_X12_as ml_RL_195 im_X12_as se_X12_as (fx_in f6_0) (ob6_0 _ _ _ _ _) rfl rfl (ct_X12_as (xs (x3 + 1).toNatClampNeg) (xs (x3 + 2).toNatClampNeg) h) (by rw [hR]; exact ⟨rfl, rfl, by decide, by decide⟩) rfl (Nat.le_of_ble_eq_true rfl) dL_law_1834 ⟨by omega, by omega⟩) (fun r_512 s_511 h => ?_)
  refine k_icmp_eq hC (pc := 1837) 1891 dL_law_1837 (by decide) (fun c_513 => ?_) (fun c_513 => ?_)
  · have h := h.1 c_513
    obtain ⟨x_514, h_x_514⟩ : ∃ z : Int32, z = x3 + 6 := ⟨_, rfl⟩
    have h := h x_514 h_x_514
    refine k_iincw hC (pc := 1891) dL_law_1891 3 rfl ic_6 h_x_514.symm [(3, .int x_514), (0, .ref b), (1, .ref (adr X.G a 0 0)), (2, .ref (adr X.G a 6 0))] (by decide) rfl ?_
    refine k_goto hC (pc := 1894) 18 dL_law_1894 (by decide) ?_
    refine k_sub [(0, .ref b), (1, .ref (adr X.G a 0 0)), (2, .ref (adr X.G a 6 0)), (3, .int x_514)] [1, 2, 3, 0] rfl ?_
    refine k_widen (ce + 2) (sl + 19) (by omega) (by omega) ?_
    exact hK18 _ _ _ h
  · have h := h.2 c_513
    refine k_iconst hC (pc := 1840) (v := 0) dL_law_1840 ic_0 ?_
    exact k_lawret hC (pc := 1841) hR hQ hr hX (by rw [hR] at hce; simp only [room_1] at hce; omega) (by rw [hR] at hsl; simp only [room_1] at hsl; omega) dL_law_1841 h
set_option maxHeartbeats 4000000 in
theorem b_L_law_1842 {X : Kx} {N L b : Nat} {xs : Nat → Int32} {ce sl : Nat} {K18 : Sx → Int32 → Prop}  (hC : Cx X cL_law 4 RL) (hR : X.R = room_1) (hQ : X.Q = lw_Z X.below X.av X.s) (hr : X.meth.sig.returnType = some .boolean) (hX : lw_X X b L xs) (hce : ce + 2 ≤ X.R.cells) (hsl : sl + 19 ≤ X.R.slots) (hK18 : ∀ (a : Ax) (s : Sx) (x3 : Int32), K18 s x3 → wk X a s 4 18 [(0, .ref b), (1, .ref (adr X.G a 0 0)), (2, .ref (adr X.G a 6 0)), (3, .int x3)] [] (ce + 2) (sl + 19)) (a : Ax) (s : Sx) (x3 : Int32) (h : w_L_law_1842 N L xs K18 s x3) : wk X a s 4 1842 [(0, .ref b), (1, .ref (adr X.G a 0 0)), (2, .ref (adr X.G a 6 0)), (3, .int x3)] [] ce sl := by
  unfold w_L_law_1842 at h
  refine k_aload_n hC (pc := 1842) dL_law_1842 1 rfl ?_
  refine k_ci (rn_V hC (pc := 1843) (As := []) (rest := []) ca_X11_trace ml_RL_196 im_X11_trace se_X11_trace (fx_in f0_0) (ob0_0 _ _ _ _ _) rfl rfl (ct_X11_trace h) (by rw [hR]; exact ⟨rfl, rfl, by decide, by decide⟩) rfl (Nat.le_of_ble_eq_true rfl) dL_law_1843 ⟨by omega, by omega⟩) (fun r_517 s_516 h => ?_)
  refine k_aload_n hC (pc := 1846) dL_law_1846 2 rfl ?_
  refine k_ci (rn_V hC (pc := 1847) (As := []) (rest := [.int r_517]) ca_X12_trace ml_RL_199 im_X12_trace se_X12_trace (fx_in f6_0) (ob6_0 _ _ _ _ _) rfl rfl (ct_X12_trace h) (by rw [hR]; exact ⟨rfl, rfl, by decide, by decide⟩) rfl (Nat.le_of_ble_eq_true rfl) dL_law_1847 ⟨by omega, by omega⟩) (fun r_519 s_518 h => ?_)
  refine k_icmp_eq hC (pc := 1850) 1891 dL_law_1850 (by decide) (fun c_520 => ?_) (fun c_520 => ?_)
  · have h := h.1 c_520
    obtain ⟨x_521, h_x_521⟩ : ∃ z : Int32, z = x3 + 6 := ⟨_, rfl⟩
    have h := h x_521 h_x_521
    refine k_iincw hC (pc := 1891) dL_law_1891 3 rfl ic_6 h_x_521.symm [(3, .int x_521), (0, .ref b), (1, .ref (adr X.G a 0 0)), (2, .ref (adr X.G a 6 0))] (by decide) rfl ?_
    refine k_goto hC (pc := 1894) 18 dL_law_1894 (by decide) ?_
    refine k_sub [(0, .ref b), (1, .ref (adr X.G a 0 0)), (2, .ref (adr X.G a 6 0)), (3, .int x_521)] [1, 2, 3, 0] rfl ?_
    refine k_widen (ce + 2) (sl + 19) (by omega) (by omega) ?_
    exact hK18 _ _ _ h
  · have h := h.2 c_520
    refine k_iconst hC (pc := 1853) (v := 0) dL_law_1853 ic_0 ?_
    exact k_lawret hC (pc := 1854) hR hQ hr hX (by rw [hR] at hce; simp only [room_1] at hce; omega) (by rw [hR] at hsl; simp only [room_1] at hsl; omega) dL_law_1854 h
set_option maxHeartbeats 4000000 in
theorem b_L_law_1855 {X : Kx} {N L b : Nat} {xs : Nat → Int32} {ce sl : Nat} {K18 : Sx → Int32 → Prop}  (hC : Cx X cL_law 4 RL) (hR : X.R = room_1) (hQ : X.Q = lw_Z X.below X.av X.s) (hr : X.meth.sig.returnType = some .boolean) (hX : lw_X X b L xs) (hce : ce + 2 ≤ X.R.cells) (hsl : sl + 19 ≤ X.R.slots) (hK18 : ∀ (a : Ax) (s : Sx) (x3 : Int32), K18 s x3 → wk X a s 4 18 [(0, .ref b), (1, .ref (adr X.G a 0 0)), (2, .ref (adr X.G a 6 0)), (3, .int x3)] [] (ce + 2) (sl + 19)) (a : Ax) (s : Sx) (x3 : Int32) (h : w_L_law_1855 N L xs K18 s x3) : wk X a s 4 1855 [(0, .ref b), (1, .ref (adr X.G a 0 0)), (2, .ref (adr X.G a 6 0)), (3, .int x3)] [] ce sl := by
  unfold w_L_law_1855 at h
  refine k_aload_n hC (pc := 1855) dL_law_1855 1 rfl ?_
  refine k_ci (rn_V hC (pc := 1856) (As := []) (rest := []) ca_X11_fault ml_RL_200 im_X11_fault se_X11_fault (fx_in f0_0) (ob0_0 _ _ _ _ _) rfl rfl (ct_X11_fault h) (by rw [hR]; exact ⟨rfl, rfl, by decide, by decide⟩) rfl (Nat.le_of_ble_eq_true rfl) dL_law_1856 ⟨by omega, by omega⟩) (fun r_524 s_523 h => ?_)
  refine k_aload_n hC (pc := 1859) dL_law_1859 2 rfl ?_
  refine k_ci (rn_V hC (pc := 1860) (As := []) (rest := [.int r_524]) ca_X12_fault ml_RL_203 im_X12_fault se_X12_fault (fx_in f6_0) (ob6_0 _ _ _ _ _) rfl rfl (ct_X12_fault h) (by rw [hR]; exact ⟨rfl, rfl, by decide, by decide⟩) rfl (Nat.le_of_ble_eq_true rfl) dL_law_1860 ⟨by omega, by omega⟩) (fun r_526 s_525 h => ?_)
  refine k_icmp_eq hC (pc := 1863) 1891 dL_law_1863 (by decide) (fun c_527 => ?_) (fun c_527 => ?_)
  · have h := h.1 c_527
    obtain ⟨x_528, h_x_528⟩ : ∃ z : Int32, z = x3 + 6 := ⟨_, rfl⟩
    have h := h x_528 h_x_528
    refine k_iincw hC (pc := 1891) dL_law_1891 3 rfl ic_6 h_x_528.symm [(3, .int x_528), (0, .ref b), (1, .ref (adr X.G a 0 0)), (2, .ref (adr X.G a 6 0))] (by decide) rfl ?_
    refine k_goto hC (pc := 1894) 18 dL_law_1894 (by decide) ?_
    refine k_sub [(0, .ref b), (1, .ref (adr X.G a 0 0)), (2, .ref (adr X.G a 6 0)), (3, .int x_528)] [1, 2, 3, 0] rfl ?_
    refine k_widen (ce + 2) (sl + 19) (by omega) (by omega) ?_
    exact hK18 _ _ _ h
  · have h := h.2 c_527
    refine k_iconst hC (pc := 1866) (v := 0) dL_law_1866 ic_0 ?_
    exact k_lawret hC (pc := 1867) hR hQ hr hX (by rw [hR] at hce; simp only [room_1] at hce; omega) (by rw [hR] at hsl; simp only [room_1] at hsl; omega) dL_law_1867 h
set_option maxHeartbeats 4000000 in
theorem b_L_law_1868 {X : Kx} {N L b : Nat} {xs : Nat → Int32} {ce sl : Nat} {K18 : Sx → Int32 → Prop}  (hC : Cx X cL_law 4 RL) (hR : X.R = room_1) (hQ : X.Q = lw_Z X.below X.av X.s) (hr : X.meth.sig.returnType = some .boolean) (hX : lw_X X b L xs) (hce : ce + 2 ≤ X.R.cells) (hsl : sl + 19 ≤ X.R.slots) (hK18 : ∀ (a : Ax) (s : Sx) (x3 : Int32), K18 s x3 → wk X a s 4 18 [(0, .ref b), (1, .ref (adr X.G a 0 0)), (2, .ref (adr X.G a 6 0)), (3, .int x3)] [] (ce + 2) (sl + 19)) (a : Ax) (s : Sx) (x3 : Int32) (h : w_L_law_1868 N L xs K18 s x3) : wk X a s 4 1868 [(0, .ref b), (1, .ref (adr X.G a 0 0)), (2, .ref (adr X.G a 6 0)), (3, .int x3)] [] ce sl := by
  unfold w_L_law_1868 at h
  refine k_aload_n hC (pc := 1868) dL_law_1868 1 rfl ?_
  refine k_aload_n hC (pc := 1869) dL_law_1869 0 rfl ?_
  refine k_iload_n hC (pc := 1870) dL_law_1870 3 rfl ?_
  refine k_iconst hC (pc := 1871) (v := 1) dL_law_1871 ic_1 ?_
  refine k_iadd hC (pc := 1872) dL_law_1872 ?_
  obtain ⟨c_530, h⟩ := h
  refine k_sld hC (pc := 1873) hX c_530 dL_law_1873 ?_
  refine k_ci (rn_V hC (pc := 1874) (As := [.int (xs (x3 + 1).toNatClampNeg)]) (rest := []) ca_X11_many ml_RL_204 im_X11_many se_X11_many (fx_in f0_0) (ob0_0 _ _ _ _ _) rfl rfl (ct_X11_many (xs (x3 + 1).toNatClampNeg) h) (by rw [hR]; exact ⟨rfl, rfl, by decide, by decide⟩) rfl (Nat.le_of_ble_eq_true rfl) dL_law_1874 ⟨by omega, by omega⟩) (fun r_532 s_531 h => ?_)
  refine k_aload_n hC (pc := 1877) dL_law_1877 2 rfl ?_
  refine k_aload_n hC (pc := 1878) dL_law_1878 0 rfl ?_
  refine k_iload_n hC (pc := 1879) dL_law_1879 3 rfl ?_
  refine k_iconst hC (pc := 1880) (v := 1) dL_law_1880 ic_1 ?_
  refine k_iadd hC (pc := 1881) dL_law_1881 ?_
  obtain ⟨c_533, h⟩ := h
  refine k_sld hC (pc := 1882) hX c_533 dL_law_1882 ?_
  refine k_ci (rn_V hC (pc := 1883) (As := [.int (xs (x3 + 1).toNatClampNeg)]) (rest := [.int r_532]) ca_X12_many ml_RL_207 im_X12_many se_X12_many (fx_in f6_0) (ob6_0 _ _ _ _ _) rfl rfl (ct_X12_many (xs (x3 + 1).toNatClampNeg) h) (by rw [hR]; exact ⟨rfl, rfl, by decide, by decide⟩) rfl (Nat.le_of_ble_eq_true rfl) dL_law_1883 ⟨by omega, by omega⟩) (fun r_535 s_534 h => ?_)
  refine k_icmp_eq hC (pc := 1886) 1891 dL_law_1886 (by decide) (fun c_536 => ?_) (fun c_536 => ?_)
  · have h := h.1 c_536
    obtain ⟨x_537, h_x_537⟩ : ∃ z : Int32, z = x3 + 6 := ⟨_, rfl⟩
    have h := h x_537 h_x_537
    refine k_iincw hC (pc := 1891) dL_law_1891 3 rfl ic_6 h_x_537.symm [(3, .int x_537), (0, .ref b), (1, .ref (adr X.G a 0 0)), (2, .ref (adr X.G a 6 0))] (by decide) rfl ?_
    refine k_goto hC (pc := 1894) 18 dL_law_1894 (by decide) ?_
    refine k_sub [(0, .ref b), (1, .ref (adr X.G a 0 0)), (2, .ref (adr X.G a 6 0)), (3, .int x_537)] [1, 2, 3, 0] rfl ?_
    refine k_widen (ce + 2) (sl + 19) (by omega) (by omega) ?_
    exact hK18 _ _ _ h
  · have h := h.2 c_536
    refine k_iconst hC (pc := 1889) (v := 0) dL_law_1889 ic_0 ?_
    exact k_lawret hC (pc := 1890) hR hQ hr hX (by rw [hR] at hce; simp only [room_1] at hce; omega) (by rw [hR] at hsl; simp only [room_1] at hsl; omega) dL_law_1890 h
set_option maxHeartbeats 4000000 in
theorem b_L_law_18 {X : Kx} {N L b : Nat} {xs : Nat → Int32} (hC : Cx X cL_law 4 RL) (hR : X.R = room_1) (hQ : X.Q = lw_Z X.below X.av X.s) (hr : X.meth.sig.returnType = some .boolean) (hX : lw_X X b L xs) : ∀ (n : Nat) (a : Ax) (s : Sx) (x3 : Int32) (ce sl : Nat), ce + 2 * n ≤ X.R.cells → sl + 19 * n ≤ X.R.slots → w_L_law_18 N L xs n s x3 → wk X a s 4 18 [(0, .ref b), (1, .ref (adr X.G a 0 0)), (2, .ref (adr X.G a 6 0)), (3, .int x3)] [] ce sl := by
  intro n
  induction n with
  | zero => intro a s x3 ce sl _ _ h; exact h.elim
  | succ n ih =>
    intro a s x3 ce sl hce hsl h
    have ih2 : ∀ (a : Ax) (s : Sx) (x3 : Int32), w_L_law_18 N L xs n s x3 → wk X a s 4 18 [(0, .ref b), (1, .ref (adr X.G a 0 0)), (2, .ref (adr X.G a 6 0)), (3, .int x3)] [] (ce + 2) (sl + 19) := fun a s x3 h => ih a s x3 (ce + 2) (sl + 19) (by omega) (by omega) h
    unfold w_L_law_18 at h
    refine k_iload_n hC (pc := 18) dL_law_18 3 rfl ?_
    refine k_aload_n hC (pc := 19) dL_law_19 0 rfl ?_
    refine k_slen hC (pc := 20) hX dL_law_20 ?_
    refine k_bipush hC (pc := 21) (v := 6) dL_law_21 bp_6 ?_
    refine k_isub hC (pc := 23) dL_law_23 ?_
    refine k_icmp_gt hC (pc := 24) 1897 dL_law_24 (by decide) (fun c_1 => ?_) (fun c_1 => ?_)
    · have h := h.1 c_1
      refine k_iconst hC (pc := 1897) (v := 1) dL_law_1897 ic_1 ?_
      exact k_lawret hC (pc := 1898) hR hQ hr hX (by rw [hR] at hce; simp only [room_1] at hce; omega) (by rw [hR] at hsl; simp only [room_1] at hsl; omega) dL_law_1898 h
    · have h := h.2 c_1
      refine k_aload_n hC (pc := 27) dL_law_27 0 rfl ?_
      refine k_iload_n hC (pc := 28) dL_law_28 3 rfl ?_
      obtain ⟨c_2, h⟩ := h
      refine k_sld hC (pc := 29) hX c_2 dL_law_29 ?_
      refine k_bipush hC (pc := 30) (v := 63) dL_law_30 bp_63 ?_
      refine k_iand hC (pc := 32) dL_law_32 ?_
      refine k_topi (fun x_3 h_x_3 => ?_)
      have h := h x_3 h_x_3
      by_cases c_16 : x_3 = 0
      · have h := h.1 c_16
        refine k_tsIn hC (pc := 33) (x := x_3) 232 dL_law_33 (by rw [c_16]; decide) (by rw [c_16]; decide) (by rw [c_16]; rfl) (by decide) ?_
        exact b_L_law_232 hC hR hQ hr hX (ce := ce) (sl := sl) (by omega) (by omega) ih2 _ _ _ h
      · have h := h.2 c_16
        by_cases c_23 : x_3 = 1
        · have h := h.1 c_23
          refine k_tsIn hC (pc := 33) (x := x_3) 275 dL_law_33 (by rw [c_23]; decide) (by rw [c_23]; decide) (by rw [c_23]; rfl) (by decide) ?_
          exact b_L_law_275 hC hR hQ hr hX (ce := ce) (sl := sl) (by omega) (by omega) ih2 _ _ _ h
        · have h := h.2 c_23
          by_cases c_41 : x_3 = 2
          · have h := h.1 c_41
            refine k_tsIn hC (pc := 33) (x := x_3) 288 dL_law_33 (by rw [c_41]; decide) (by rw [c_41]; decide) (by rw [c_41]; rfl) (by decide) ?_
            exact b_L_law_288 hC hR hQ hr hX (ce := ce) (sl := sl) (by omega) (by omega) ih2 _ _ _ h
          · have h := h.2 c_41
            by_cases c_52 : x_3 = 3
            · have h := h.1 c_52
              refine k_tsIn hC (pc := 33) (x := x_3) 351 dL_law_33 (by rw [c_52]; decide) (by rw [c_52]; decide) (by rw [c_52]; rfl) (by decide) ?_
              exact b_L_law_351 hC hR hQ hr hX (ce := ce) (sl := sl) (by omega) (by omega) ih2 _ _ _ h
            · have h := h.2 c_52
              by_cases c_63 : x_3 = 4
              · have h := h.1 c_63
                refine k_tsIn hC (pc := 33) (x := x_3) 384 dL_law_33 (by rw [c_63]; decide) (by rw [c_63]; decide) (by rw [c_63]; rfl) (by decide) ?_
                exact b_L_law_384 hC hR hQ hr hX (ce := ce) (sl := sl) (by omega) (by omega) ih2 _ _ _ h
              · have h := h.2 c_63
                by_cases c_72 : x_3 = 5
                · have h := h.1 c_72
                  refine k_tsIn hC (pc := 33) (x := x_3) 417 dL_law_33 (by rw [c_72]; decide) (by rw [c_72]; decide) (by rw [c_72]; rfl) (by decide) ?_
                  exact b_L_law_417 hC hR hQ hr hX (ce := ce) (sl := sl) (by omega) (by omega) ih2 _ _ _ h
                · have h := h.2 c_72
                  by_cases c_90 : x_3 = 6
                  · have h := h.1 c_90
                    refine k_tsIn hC (pc := 33) (x := x_3) 440 dL_law_33 (by rw [c_90]; decide) (by rw [c_90]; decide) (by rw [c_90]; rfl) (by decide) ?_
                    exact b_L_law_440 hC hR hQ hr hX (ce := ce) (sl := sl) (by omega) (by omega) ih2 _ _ _ h
                  · have h := h.2 c_90
                    by_cases c_101 : x_3 = 7
                    · have h := h.1 c_101
                      refine k_tsIn hC (pc := 33) (x := x_3) 503 dL_law_33 (by rw [c_101]; decide) (by rw [c_101]; decide) (by rw [c_101]; rfl) (by decide) ?_
                      exact b_L_law_503 hC hR hQ hr hX (ce := ce) (sl := sl) (by omega) (by omega) ih2 _ _ _ h
                    · have h := h.2 c_101
                      by_cases c_112 : x_3 = 8
                      · have h := h.1 c_112
                        refine k_tsIn hC (pc := 33) (x := x_3) 536 dL_law_33 (by rw [c_112]; decide) (by rw [c_112]; decide) (by rw [c_112]; rfl) (by decide) ?_
                        exact b_L_law_536 hC hR hQ hr hX (ce := ce) (sl := sl) (by omega) (by omega) ih2 _ _ _ h
                      · have h := h.2 c_112
                        by_cases c_127 : x_3 = 9
                        · have h := h.1 c_127
                          refine k_tsIn hC (pc := 33) (x := x_3) 569 dL_law_33 (by rw [c_127]; decide) (by rw [c_127]; decide) (by rw [c_127]; rfl) (by decide) ?_
                          exact b_L_law_569 hC hR hQ hr hX (ce := ce) (sl := sl) (by omega) (by omega) ih2 _ _ _ h
                        · have h := h.2 c_127
                          by_cases c_142 : x_3 = 10
                          · have h := h.1 c_142
                            refine k_tsIn hC (pc := 33) (x := x_3) 622 dL_law_33 (by rw [c_142]; decide) (by rw [c_142]; decide) (by rw [c_142]; rfl) (by decide) ?_
                            exact b_L_law_622 hC hR hQ hr hX (ce := ce) (sl := sl) (by omega) (by omega) ih2 _ _ _ h
                          · have h := h.2 c_142
                            by_cases c_153 : x_3 = 11
                            · have h := h.1 c_153
                              refine k_tsIn hC (pc := 33) (x := x_3) 675 dL_law_33 (by rw [c_153]; decide) (by rw [c_153]; decide) (by rw [c_153]; rfl) (by decide) ?_
                              exact b_L_law_675 hC hR hQ hr hX (ce := ce) (sl := sl) (by omega) (by omega) ih2 _ _ _ h
                            · have h := h.2 c_153
                              by_cases c_164 : x_3 = 12
                              · have h := h.1 c_164
                                refine k_tsIn hC (pc := 33) (x := x_3) 708 dL_law_33 (by rw [c_164]; decide) (by rw [c_164]; decide) (by rw [c_164]; rfl) (by decide) ?_
                                exact b_L_law_708 hC hR hQ hr hX (ce := ce) (sl := sl) (by omega) (by omega) ih2 _ _ _ h
                              · have h := h.2 c_164
                                by_cases c_175 : x_3 = 13
                                · have h := h.1 c_175
                                  refine k_tsIn hC (pc := 33) (x := x_3) 741 dL_law_33 (by rw [c_175]; decide) (by rw [c_175]; decide) (by rw [c_175]; rfl) (by decide) ?_
                                  exact b_L_law_741 hC hR hQ hr hX (ce := ce) (sl := sl) (by omega) (by omega) ih2 _ _ _ h
                                · have h := h.2 c_175
                                  by_cases c_188 : x_3 = 14
                                  · have h := h.1 c_188
                                    refine k_tsIn hC (pc := 33) (x := x_3) 774 dL_law_33 (by rw [c_188]; decide) (by rw [c_188]; decide) (by rw [c_188]; rfl) (by decide) ?_
                                    exact b_L_law_774 hC hR hQ hr hX (ce := ce) (sl := sl) (by omega) (by omega) ih2 _ _ _ h
                                  · have h := h.2 c_188
                                    by_cases c_203 : x_3 = 15
                                    · have h := h.1 c_203
                                      refine k_tsIn hC (pc := 33) (x := x_3) 817 dL_law_33 (by rw [c_203]; decide) (by rw [c_203]; decide) (by rw [c_203]; rfl) (by decide) ?_
                                      exact b_L_law_817 hC hR hQ hr hX (ce := ce) (sl := sl) (by omega) (by omega) ih2 _ _ _ h
                                    · have h := h.2 c_203
                                      by_cases c_217 : x_3 = 16
                                      · have h := h.1 c_217
                                        refine k_tsIn hC (pc := 33) (x := x_3) 870 dL_law_33 (by rw [c_217]; decide) (by rw [c_217]; decide) (by rw [c_217]; rfl) (by decide) ?_
                                        exact b_L_law_870 hC hR hQ hr hX (ce := ce) (sl := sl) (by omega) (by omega) ih2 _ _ _ h
                                      · have h := h.2 c_217
                                        by_cases c_230 : x_3 = 17
                                        · have h := h.1 c_230
                                          refine k_tsIn hC (pc := 33) (x := x_3) 913 dL_law_33 (by rw [c_230]; decide) (by rw [c_230]; decide) (by rw [c_230]; rfl) (by decide) ?_
                                          exact b_L_law_913 hC hR hQ hr hX (ce := ce) (sl := sl) (by omega) (by omega) ih2 _ _ _ h
                                        · have h := h.2 c_230
                                          by_cases c_247 : x_3 = 18
                                          · have h := h.1 c_247
                                            refine k_tsIn hC (pc := 33) (x := x_3) 956 dL_law_33 (by rw [c_247]; decide) (by rw [c_247]; decide) (by rw [c_247]; rfl) (by decide) ?_
                                            exact b_L_law_956 hC hR hQ hr hX (ce := ce) (sl := sl) (by omega) (by omega) ih2 _ _ _ h
                                          · have h := h.2 c_247
                                            by_cases c_254 : x_3 = 19
                                            · have h := h.1 c_254
                                              refine k_tsIn hC (pc := 33) (x := x_3) 1019 dL_law_33 (by rw [c_254]; decide) (by rw [c_254]; decide) (by rw [c_254]; rfl) (by decide) ?_
                                              exact b_L_law_1019 hC hR hQ hr hX (ce := ce) (sl := sl) (by omega) (by omega) ih2 _ _ _ h
                                            · have h := h.2 c_254
                                              by_cases c_265 : x_3 = 20
                                              · have h := h.1 c_265
                                                refine k_tsIn hC (pc := 33) (x := x_3) 1032 dL_law_33 (by rw [c_265]; decide) (by rw [c_265]; decide) (by rw [c_265]; rfl) (by decide) ?_
                                                exact b_L_law_1032 hC hR hQ hr hX (ce := ce) (sl := sl) (by omega) (by omega) ih2 _ _ _ h
                                              · have h := h.2 c_265
                                                by_cases c_278 : x_3 = 21
                                                · have h := h.1 c_278
                                                  refine k_tsIn hC (pc := 33) (x := x_3) 1065 dL_law_33 (by rw [c_278]; decide) (by rw [c_278]; decide) (by rw [c_278]; rfl) (by decide) ?_
                                                  exact b_L_law_1065 hC hR hQ hr hX (ce := ce) (sl := sl) (by omega) (by omega) ih2 _ _ _ h
                                                · have h := h.2 c_278
                                                  by_cases c_289 : x_3 = 22
                                                  · have h := h.1 c_289
                                                    refine k_tsIn hC (pc := 33) (x := x_3) 1108 dL_law_33 (by rw [c_289]; decide) (by rw [c_289]; decide) (by rw [c_289]; rfl) (by decide) ?_
                                                    exact b_L_law_1108 hC hR hQ hr hX (ce := ce) (sl := sl) (by omega) (by omega) ih2 _ _ _ h
                                                  · have h := h.2 c_289
                                                    by_cases c_298 : x_3 = 23
                                                    · have h := h.1 c_298
                                                      refine k_tsIn hC (pc := 33) (x := x_3) 1142 dL_law_33 (by rw [c_298]; decide) (by rw [c_298]; decide) (by rw [c_298]; rfl) (by decide) ?_
                                                      exact b_L_law_1142 hC hR hQ hr hX (ce := ce) (sl := sl) (by omega) (by omega) ih2 _ _ _ h
                                                    · have h := h.2 c_298
                                                      by_cases c_313 : x_3 = 24
                                                      · have h := h.1 c_313
                                                        refine k_tsIn hC (pc := 33) (x := x_3) 1165 dL_law_33 (by rw [c_313]; decide) (by rw [c_313]; decide) (by rw [c_313]; rfl) (by decide) ?_
                                                        exact b_L_law_1165 hC hR hQ hr hX (ce := ce) (sl := sl) (by omega) (by omega) ih2 _ _ _ h
                                                      · have h := h.2 c_313
                                                        by_cases c_324 : x_3 = 25
                                                        · have h := h.1 c_324
                                                          refine k_tsIn hC (pc := 33) (x := x_3) 1218 dL_law_33 (by rw [c_324]; decide) (by rw [c_324]; decide) (by rw [c_324]; rfl) (by decide) ?_
                                                          exact b_L_law_1218 hC hR hQ hr hX (ce := ce) (sl := sl) (by omega) (by omega) ih2 _ _ _ h
                                                        · have h := h.2 c_324
                                                          by_cases c_335 : x_3 = 26
                                                          · have h := h.1 c_335
                                                            refine k_tsIn hC (pc := 33) (x := x_3) 1251 dL_law_33 (by rw [c_335]; decide) (by rw [c_335]; decide) (by rw [c_335]; rfl) (by decide) ?_
                                                            exact b_L_law_1251 hC hR hQ hr hX (ce := ce) (sl := sl) (by omega) (by omega) ih2 _ _ _ h
                                                          · have h := h.2 c_335
                                                            by_cases c_350 : x_3 = 27
                                                            · have h := h.1 c_350
                                                              refine k_tsIn hC (pc := 33) (x := x_3) 1285 dL_law_33 (by rw [c_350]; decide) (by rw [c_350]; decide) (by rw [c_350]; rfl) (by decide) ?_
                                                              exact b_L_law_1285 hC hR hQ hr hX (ce := ce) (sl := sl) (by omega) (by omega) ih2 _ _ _ h
                                                            · have h := h.2 c_350
                                                              by_cases c_361 : x_3 = 28
                                                              · have h := h.1 c_361
                                                                refine k_tsIn hC (pc := 33) (x := x_3) 1338 dL_law_33 (by rw [c_361]; decide) (by rw [c_361]; decide) (by rw [c_361]; rfl) (by decide) ?_
                                                                exact b_L_law_1338 hC hR hQ hr hX (ce := ce) (sl := sl) (by omega) (by omega) ih2 _ _ _ h
                                                              · have h := h.2 c_361
                                                                by_cases c_370 : x_3 = 29
                                                                · have h := h.1 c_370
                                                                  refine k_tsIn hC (pc := 33) (x := x_3) 1371 dL_law_33 (by rw [c_370]; decide) (by rw [c_370]; decide) (by rw [c_370]; rfl) (by decide) ?_
                                                                  exact b_L_law_1371 hC hR hQ hr hX (ce := ce) (sl := sl) (by omega) (by omega) ih2 _ _ _ h
                                                                · have h := h.2 c_370
                                                                  by_cases c_379 : x_3 = 30
                                                                  · have h := h.1 c_379
                                                                    refine k_tsIn hC (pc := 33) (x := x_3) 1394 dL_law_33 (by rw [c_379]; decide) (by rw [c_379]; decide) (by rw [c_379]; rfl) (by decide) ?_
                                                                    exact b_L_law_1394 hC hR hQ hr hX (ce := ce) (sl := sl) (by omega) (by omega) ih2 _ _ _ h
                                                                  · have h := h.2 c_379
                                                                    by_cases c_396 : x_3 = 31
                                                                    · have h := h.1 c_396
                                                                      refine k_tsIn hC (pc := 33) (x := x_3) 1417 dL_law_33 (by rw [c_396]; decide) (by rw [c_396]; decide) (by rw [c_396]; rfl) (by decide) ?_
                                                                      exact b_L_law_1417 hC hR hQ hr hX (ce := ce) (sl := sl) (by omega) (by omega) ih2 _ _ _ h
                                                                    · have h := h.2 c_396
                                                                      by_cases c_405 : x_3 = 32
                                                                      · have h := h.1 c_405
                                                                        refine k_tsIn hC (pc := 33) (x := x_3) 1486 dL_law_33 (by rw [c_405]; decide) (by rw [c_405]; decide) (by rw [c_405]; rfl) (by decide) ?_
                                                                        exact b_L_law_1486 hC hR hQ hr hX (ce := ce) (sl := sl) (by omega) (by omega) ih2 _ _ _ h
                                                                      · have h := h.2 c_405
                                                                        by_cases c_420 : x_3 = 33
                                                                        · have h := h.1 c_420
                                                                          refine k_tsIn hC (pc := 33) (x := x_3) 1510 dL_law_33 (by rw [c_420]; decide) (by rw [c_420]; decide) (by rw [c_420]; rfl) (by decide) ?_
                                                                          exact b_L_law_1510 hC hR hQ hr hX (ce := ce) (sl := sl) (by omega) (by omega) ih2 _ _ _ h
                                                                        · have h := h.2 c_420
                                                                          by_cases c_427 : x_3 = 34
                                                                          · have h := h.1 c_427
                                                                            refine k_tsIn hC (pc := 33) (x := x_3) 1564 dL_law_33 (by rw [c_427]; decide) (by rw [c_427]; decide) (by rw [c_427]; rfl) (by decide) ?_
                                                                            exact b_L_law_1564 hC hR hQ hr hX (ce := ce) (sl := sl) (by omega) (by omega) ih2 _ _ _ h
                                                                          · have h := h.2 c_427
                                                                            by_cases c_438 : x_3 = 35
                                                                            · have h := h.1 c_438
                                                                              refine k_tsIn hC (pc := 33) (x := x_3) 1577 dL_law_33 (by rw [c_438]; decide) (by rw [c_438]; decide) (by rw [c_438]; rfl) (by decide) ?_
                                                                              exact b_L_law_1577 hC hR hQ hr hX (ce := ce) (sl := sl) (by omega) (by omega) ih2 _ _ _ h
                                                                            · have h := h.2 c_438
                                                                              by_cases c_451 : x_3 = 36
                                                                              · have h := h.1 c_451
                                                                                refine k_tsIn hC (pc := 33) (x := x_3) 1610 dL_law_33 (by rw [c_451]; decide) (by rw [c_451]; decide) (by rw [c_451]; rfl) (by decide) ?_
                                                                                exact b_L_law_1610 hC hR hQ hr hX (ce := ce) (sl := sl) (by omega) (by omega) ih2 _ _ _ h
                                                                              · have h := h.2 c_451
                                                                                by_cases c_460 : x_3 = 37
                                                                                · have h := h.1 c_460
                                                                                  refine k_tsIn hC (pc := 33) (x := x_3) 1653 dL_law_33 (by rw [c_460]; decide) (by rw [c_460]; decide) (by rw [c_460]; rfl) (by decide) ?_
                                                                                  exact b_L_law_1653 hC hR hQ hr hX (ce := ce) (sl := sl) (by omega) (by omega) ih2 _ _ _ h
                                                                                · have h := h.2 c_460
                                                                                  by_cases c_473 : x_3 = 38
                                                                                  · have h := h.1 c_473
                                                                                    refine k_tsIn hC (pc := 33) (x := x_3) 1676 dL_law_33 (by rw [c_473]; decide) (by rw [c_473]; decide) (by rw [c_473]; rfl) (by decide) ?_
                                                                                    exact b_L_law_1676 hC hR hQ hr hX (ce := ce) (sl := sl) (by omega) (by omega) ih2 _ _ _ h
                                                                                  · have h := h.2 c_473
                                                                                    by_cases c_486 : x_3 = 39
                                                                                    · have h := h.1 c_486
                                                                                      refine k_tsIn hC (pc := 33) (x := x_3) 1719 dL_law_33 (by rw [c_486]; decide) (by rw [c_486]; decide) (by rw [c_486]; rfl) (by decide) ?_
                                                                                      exact b_L_law_1719 hC hR hQ hr hX (ce := ce) (sl := sl) (by omega) (by omega) ih2 _ _ _ h
                                                                                    · have h := h.2 c_486
                                                                                      by_cases c_495 : x_3 = 40
                                                                                      · have h := h.1 c_495
                                                                                        refine k_tsIn hC (pc := 33) (x := x_3) 1763 dL_law_33 (by rw [c_495]; decide) (by rw [c_495]; decide) (by rw [c_495]; rfl) (by decide) ?_
                                                                                        exact b_L_law_1763 hC hR hQ hr hX (ce := ce) (sl := sl) (by omega) (by omega) ih2 _ _ _ h
                                                                                      · have h := h.2 c_495
                                                                                        by_cases c_504 : x_3 = 41
                                                                                        · have h := h.1 c_504
                                                                                          refine k_tsIn hC (pc := 33) (x := x_3) 1786 dL_law_33 (by rw [c_504]; decide) (by rw [c_504]; decide) (by rw [c_504]; rfl) (by decide) ?_
                                                                                          exact b_L_law_1786 hC hR hQ hr hX (ce := ce) (sl := sl) (by omega) (by omega) ih2 _ _ _ h
                                                                                        · have h := h.2 c_504
                                                                                          by_cases c_515 : x_3 = 42
                                                                                          · have h := h.1 c_515
                                                                                            refine k_tsIn hC (pc := 33) (x := x_3) 1809 dL_law_33 (by rw [c_515]; decide) (by rw [c_515]; decide) (by rw [c_515]; rfl) (by decide) ?_
                                                                                            exact b_L_law_1809 hC hR hQ hr hX (ce := ce) (sl := sl) (by omega) (by omega) ih2 _ _ _ h
                                                                                          · have h := h.2 c_515
                                                                                            by_cases c_522 : x_3 = 43
                                                                                            · have h := h.1 c_522
                                                                                              refine k_tsIn hC (pc := 33) (x := x_3) 1842 dL_law_33 (by rw [c_522]; decide) (by rw [c_522]; decide) (by rw [c_522]; rfl) (by decide) ?_
                                                                                              exact b_L_law_1842 hC hR hQ hr hX (ce := ce) (sl := sl) (by omega) (by omega) ih2 _ _ _ h
                                                                                            · have h := h.2 c_522
                                                                                              by_cases c_529 : x_3 = 44
                                                                                              · have h := h.1 c_529
                                                                                                refine k_tsIn hC (pc := 33) (x := x_3) 1855 dL_law_33 (by rw [c_529]; decide) (by rw [c_529]; decide) (by rw [c_529]; rfl) (by decide) ?_
                                                                                                exact b_L_law_1855 hC hR hQ hr hX (ce := ce) (sl := sl) (by omega) (by omega) ih2 _ _ _ h
                                                                                              · have h := h.2 c_529
                                                                                                by_cases c_538 : x_3 = 45
                                                                                                · have h := h.1 c_538
                                                                                                  refine k_tsIn hC (pc := 33) (x := x_3) 1868 dL_law_33 (by rw [c_538]; decide) (by rw [c_538]; decide) (by rw [c_538]; rfl) (by decide) ?_
                                                                                                  exact b_L_law_1868 hC hR hQ hr hX (ce := ce) (sl := sl) (by omega) (by omega) ih2 _ _ _ h
                                                                                                · have h := h.2 c_538
                                                                                                  refine k_tsOut hC (pc := 33) (x := x_3) 1891 dL_law_33 (ts_out46 c_16 c_23 c_41 c_52 c_63 c_72 c_90 c_101 c_112 c_127 c_142 c_153 c_164 c_175 c_188 c_203 c_217 c_230 c_247 c_254 c_265 c_278 c_289 c_298 c_313 c_324 c_335 c_350 c_361 c_370 c_379 c_396 c_405 c_420 c_427 c_438 c_451 c_460 c_473 c_486 c_495 c_504 c_515 c_522 c_529 c_538) (by decide) ?_
                                                                                                  obtain ⟨x_539, h_x_539⟩ : ∃ z : Int32, z = x3 + 6 := ⟨_, rfl⟩
                                                                                                  have h := h x_539 h_x_539
                                                                                                  refine k_iincw hC (pc := 1891) dL_law_1891 3 rfl ic_6 h_x_539.symm [(3, .int x_539), (0, .ref b), (1, .ref (adr X.G a 0 0)), (2, .ref (adr X.G a 6 0))] (by decide) rfl ?_
                                                                                                  refine k_goto hC (pc := 1894) 18 dL_law_1894 (by decide) ?_
                                                                                                  refine k_sub [(0, .ref b), (1, .ref (adr X.G a 0 0)), (2, .ref (adr X.G a 6 0)), (3, .int x_539)] [1, 2, 3, 0] rfl ?_
                                                                                                  refine k_widen (ce + 2) (sl + 19) (by omega) (by omega) ?_
                                                                                                  exact ih2 _ _ _ h
