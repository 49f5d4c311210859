/-! THE WORLD: one abstract heap for the class and the reference. A cell has a kind k and a number j: 0 the class's own fixed cells, 1 posts, 2 orders, 3 works, 4 the reader of a text, 5 the reference's rows (j: the field's slot), 6 the reference's object. -/
/-- constants of a world: class numbers, slots, array classes, addresses of the fixed cells, the least address -/
abbrev Gx : Type := (Nat → ClassId) × (Nat → Nat → Nat) × (Nat → ClassId) × (Nat → Nat → Nat) × Nat
/-- a state: ints by kind, number and slot; longs likewise; counts -/
abbrev Sx : Type := (Nat → Nat → Nat → Int32) × (Nat → Nat → Nat → Int64) × (Nat → Nat)
/-- addresses of posts, orders, works, the reader -/
abbrev Ax : Type := (Nat → Nat) × (Nat → Nat) × (Nat → Nat) × (Nat → Nat)
abbrev cls_ : List vw_C := [(RX0, TX0, 5), (RX1, TX1, 9), (RX2, TX2, 7), (RX3, TX3, 12), (RX4, TX4, 7), (RX5, TX5, 7), (RX6, TX6, 5), (RX7, TX7, 3), (RX8, TX8, 6), (RX9, TX9, 8), (RX10, TX10, 7), (RX11, TX11, 15), (RX12, TX12, 71)]
def tys_ (G : Gx) : List (ClassId × FieldType) := [(G.2.2.1 0, .int), (G.2.2.1 1, .long), (G.2.2.1 2, .boolean), (G.2.2.1 3, .object "CampYears$Post"), (G.2.2.1 4, .object "CampYears$Order"), (G.2.2.1 5, .object "CampYears$Work"), (G.2.2.1 6, .object "CampYears$Sheet")]
abbrev Cf : Type := Gx → (Nat → Nat → Option Nat) → (Nat → Int32) → (Nat → Int64) → va_E
def cfI (len : Nat) : Cf := fun G _ ri _ => .inl (G.2.2.1 0, len, .inl ri)
def cfJ (len : Nat) : Cf := fun G _ _ rl => .inl (G.2.2.1 1, len, .inr (.inl rl))
def cfZ (len : Nat) : Cf := fun G _ ri _ => .inl (G.2.2.1 2, len, .inl ri)
def cfP (t len row : Nat) : Cf := fun G pf _ _ => .inl (G.2.2.1 t, len, .inr (.inr (.inr (.inr (pf row)))))
/-- a field: a number of its own, or the fixed cell that it holds -/
def fI (ri : Nat → Int32) (k : Nat) : Value := .int (ri k)
def fR (G : Gx) (k j : Nat) : Value := .ref (G.2.2.2.1 k j)
def fx_ : List Cf := [
  /- 0 -/ fun G _ ri _ => .inr (11, [fR G 0 1, fI ri 1, fR G 0 6, fI ri 3, fI ri 4, fR G 0 7, fR G 0 8, fI ri 7, fR G 0 9, fR G 0 14, fR G 0 19, fR G 0 25, fR G 0 34, fR G 0 41, fI ri 14]),
  /- 1 -/ fun G _ ri _ => .inr (0, [fR G 0 2, fR G 0 3, fR G 0 4, fR G 0 5, fI ri 4]),
  /- 2 -/ cfI 7,
  /- 3 -/ cfI 7,
  /- 4 -/ cfI 7,
  /- 5 -/ cfI 7,
  /- 6 -/ cfP 3 30 0,
  /- 7 -/ cfI 5,
  /- 8 -/ cfP 4 12 1,
  /- 9 -/ fun G _ ri _ => .inr (4, [fR G 0 10, fI ri 1, fI ri 2, fR G 0 11, fR G 0 12, fR G 0 13, fI ri 6]),
  /- 10 -/ cfI 3,
  /- 11 -/ cfI 30,
  /- 12 -/ cfI 30,
  /- 13 -/ cfI 30,
  /- 14 -/ fun G _ ri _ => .inr (10, [fR G 0 15, fI ri 1, fR G 0 16, fI ri 3, fI ri 4, fR G 0 17, fR G 0 18]),
  /- 15 -/ cfP 5 8 2,
  /- 16 -/ cfI 8,
  /- 17 -/ cfI 5,
  /- 18 -/ cfI 5,
  /- 19 -/ fun G _ ri _ => .inr (8, [fR G 0 20, fR G 0 21, fR G 0 22, fR G 0 23, fI ri 4, fR G 0 24]),
  /- 20 -/ cfI 12,
  /- 21 -/ cfI 12,
  /- 22 -/ cfI 12,
  /- 23 -/ cfI 12,
  /- 24 -/ cfI 24,
  /- 25 -/ fun G _ ri _ => .inr (1, [fR G 0 26, fR G 0 27, fR G 0 28, fR G 0 29, fI ri 4, fR G 0 30, fR G 0 31, fR G 0 32, fR G 0 33]),
  /- 26 -/ cfI 3,
  /- 27 -/ cfI 3,
  /- 28 -/ cfI 3,
  /- 29 -/ cfI 3,
  /- 30 -/ cfI 7,
  /- 31 -/ cfI 7,
  /- 32 -/ cfJ 128,
  /- 33 -/ cfJ 128,
  /- 34 -/ fun G _ ri _ => .inr (5, [fR G 0 35, fR G 0 36, fR G 0 37, fR G 0 38, fI ri 4, fR G 0 39, fR G 0 40]),
  /- 35 -/ cfI 8,
  /- 36 -/ cfI 8,
  /- 37 -/ cfI 8,
  /- 38 -/ cfZ 8,
  /- 39 -/ cfI 256,
  /- 40 -/ cfI 7,
  /- 41 -/ fun G _ _ _ => .inl (G.2.2.1 6, 4, .inr (.inr (.inr (.inr (fun i => if i < 4 then some (G.2.2.2.1 0 (42 + i)) else none))))),
  /- 42 -/ fun G _ ri _ => .inr (7, [fR G 0 46, fI ri 1, fI ri 2]),
  /- 43 -/ fun G _ ri _ => .inr (7, [fR G 0 47, fI ri 1, fI ri 2]),
  /- 44 -/ fun G _ ri _ => .inr (7, [fR G 0 48, fI ri 1, fI ri 2]),
  /- 45 -/ fun G _ ri _ => .inr (7, [fR G 0 49, fI ri 1, fI ri 2]),
  /- 46 -/ cfI 60,
  /- 47 -/ cfI 60,
  /- 48 -/ cfI 60,
  /- 49 -/ cfI 60]
def fxd : Cf := cfI 0
def fm_ : List Cf := [
  /- 0 fault -/ fxd,
  /- 1 trace -/ fxd,
  /- 2 lanes -/ cfI 4,
  /- 3 sheetLong -/ cfI 4,
  /- 4 cells -/ cfI 240,
  /- 5 camps -/ fxd,
  /- 6 campX -/ cfI 7,
  /- 7 campY -/ cfI 7,
  /- 8 bedsOf -/ cfI 7,
  /- 9 men -/ fxd,
  /- 10 posts -/ fxd,
  /- 11 postKind -/ cfI 30,
  /- 12 postMan -/ cfI 30,
  /- 13 postCamp -/ cfI 30,
  /- 14 postFrom -/ cfI 30,
  /- 15 postTill -/ cfI 30,
  /- 16 orders -/ fxd,
  /- 17 orderOffice -/ cfI 13,
  /- 18 hourFrom -/ cfI 13,
  /- 19 hourTo -/ cfI 13,
  /- 20 dayFrom -/ cfI 13,
  /- 21 dayTo -/ cfI 13,
  /- 22 leftOut -/ cfI 13,
  /- 23 given -/ cfI 13,
  /- 24 delays -/ cfI 5,
  /- 25 at -/ fxd,
  /- 26 end -/ fxd,
  /- 27 wrongAt -/ fxd,
  /- 28 rates -/ cfI 3,
  /- 29 homeA -/ fxd,
  /- 30 homeB -/ fxd,
  /- 31 fines -/ fxd,
  /- 32 fineMan -/ cfI 30,
  /- 33 fineDay -/ cfI 30,
  /- 34 fineCents -/ cfI 30,
  /- 35 works -/ fxd,
  /- 36 workCamp -/ cfI 8,
  /- 37 needs -/ cfI 8,
  /- 38 done -/ cfI 8,
  /- 39 toolsOf -/ cfI 8,
  /- 40 handsOf -/ cfI 8,
  /- 41 noTool -/ cfI 8,
  /- 42 noDay -/ cfI 8,
  /- 43 counted -/ cfI 8,
  /- 44 weather -/ cfI 8,
  /- 45 weatherLong -/ fxd,
  /- 46 weeks -/ fxd,
  /- 47 levelA -/ cfI 5,
  /- 48 levelB -/ cfI 5,
  /- 49 shares -/ cfI 24,
  /- 50 stands -/ fxd,
  /- 51 standKind -/ cfI 12,
  /- 52 slopes -/ cfI 12,
  /- 53 planted -/ cfI 12,
  /- 54 plantedIn -/ cfI 12,
  /- 55 fires -/ fxd,
  /- 56 fireX -/ cfI 3,
  /- 57 fireY -/ cfI 3,
  /- 58 fireNeed -/ cfI 3,
  /- 59 spreads -/ cfI 3,
  /- 60 crews -/ cfI 7,
  /- 61 goes -/ cfI 7,
  /- 62 hours -/ cfI 21,
  /- 63 places -/ fxd,
  /- 64 placeX -/ cfI 8,
  /- 65 placeY -/ cfI 8,
  /- 66 reaches -/ cfI 8,
  /- 67 hasWater -/ cfZ 8,
  /- 68 most -/ cfJ 256,
  /- 69 toX -/ cfI 7,
  /- 70 toY -/ cfI 7]
def mo_ (G : Gx) (ri : Nat → Int32) : List Value := [fI ri 0, fI ri 1, fR G 5 2, fR G 5 3, fR G 5 4, fI ri 5, fR G 5 6, fR G 5 7, fR G 5 8, fI ri 9, fI ri 10, fR G 5 11, fR G 5 12, fR G 5 13, fR G 5 14, fR G 5 15, fI ri 16, fR G 5 17, fR G 5 18, fR G 5 19, fR G 5 20, fR G 5 21, fR G 5 22, fR G 5 23, fR G 5 24, fI ri 25, fI ri 26, fI ri 27, fR G 5 28, fI ri 29, fI ri 30, fI ri 31, fR G 5 32, fR G 5 33, fR G 5 34, fI ri 35, fR G 5 36, fR G 5 37, fR G 5 38, fR G 5 39, fR G 5 40, fR G 5 41, fR G 5 42, fR G 5 43, fR G 5 44, fI ri 45, fI ri 46, fR G 5 47, fR G 5 48, fR G 5 49, fI ri 50, fR G 5 51, fR G 5 52, fR G 5 53, fR G 5 54, fI ri 55, fR G 5 56, fR G 5 57, fR G 5 58, fR G 5 59, fR G 5 60, fR G 5 61, fR G 5 62, fI ri 63, fR G 5 64, fR G 5 65, fR G 5 66, fR G 5 67, fR G 5 68, fR G 5 69, fR G 5 70]
def rd_ (G : Gx) (x : Nat) : Option Nat := match x with
  | 0 => none
  | k + 1 => some (G.2.2.2.1 0 (42 + k))
/-- the three rows of dynamic objects: null from their counts on -/
def pfn (a : Ax) (n : Nat → Nat) : Nat → Nat → Option Nat := fun t => match t with
  | 0 => fun i => if i < n 1 then some (a.1 i) else none
  | 1 => fun i => if i < n 3 then some (a.2.1 i) else none
  | _ => fun i => if i < n 5 then some (a.2.2.1 i) else none
def ctp (G : Gx) (pf : Nat → Nat → Option Nat) (k j : Nat) (ri : Nat → Int32) (rl : Nat → Int64) : va_E := match k with
  | 0 => ((fx_[j]?).getD fxd) G pf ri rl
  | 1 => .inr (6, [fI ri 0, fI ri 1, fI ri 2, fI ri 3, fI ri 4])
  | 2 => .inr (2, [fI ri 0, fI ri 1, fI ri 2, fI ri 3, fI ri 4, fI ri 5, fI ri 6])
  | 3 => .inr (9, [fI ri 0, fI ri 1, fI ri 2, fI ri 3, fI ri 4, fI ri 5, fI ri 6, fI ri 7])
  | 4 => .inr (3, [va_rf (rd_ G (ri 0).toNatClampNeg), fI ri 1, fI ri 2, fI ri 3, fI ri 4, fI ri 5, fI ri 6, fI ri 7, fI ri 8, fI ri 9, fI ri 10, fI ri 11])
  | 5 => ((fm_[j]?).getD fxd) G pf ri rl
  | _ => .inr (12, mo_ G ri)
/-- what the cell (k, j) holds, by its row of the state -/
def ctf (G : Gx) (a : Ax) (n : Nat → Nat) (k j : Nat) (ri : Nat → Int32) (rl : Nat → Int64) : va_E := ctp G (pfn a n) k j ri rl
def adr (G : Gx) (a : Ax) (k j : Nat) : Nat := match k with
  | 0 => G.2.2.2.1 0 j
  | 1 => a.1 j
  | 2 => a.2.1 j
  | 3 => a.2.2.1 j
  | 4 => a.2.2.2 j
  | 5 => G.2.2.2.1 5 j
  | _ => G.2.2.2.1 6 j
/-- the fixed cells -/
def fxl : List (Nat × Nat) := (List.range 50).map (fun j => (0, j)) ++ ([2, 3, 4, 6, 7, 8, 11, 12, 13, 14, 15, 17, 18, 19, 20, 21, 22, 23, 24, 28, 32, 33, 34, 36, 37, 38, 39, 40, 41, 42, 43, 44, 47, 48, 49, 51, 52, 53, 54, 56, 57, 58, 59, 60, 61, 62, 64, 65, 66, 67, 68, 69, 70].map (fun j => (5, j)) ++ [(6, 0)])
/-- the cells that stand, by the counts: 0 posts made, 1 posts in their row, 2, 3 orders, 4, 5 works, 6 readers made -/
def lx_ (n : Nat → Nat) : List (Nat × Nat) := fxl ++ ((List.range (n 0)).map (fun p => (1, p)) ++ ((List.range (n 2)).map (fun p => (2, p)) ++ ((List.range (n 4)).map (fun p => (3, p)) ++ (List.range (n 6)).map (fun p => (4, p)))))
def wl_ (G : Gx) (a : Ax) (s : Sx) : va_W := (lx_ s.2.2).map (fun q => (adr G a q.1 q.2, ctf G a s.2.2 q.1 q.2 (s.1 q.1 q.2) (s.2.1 q.1 q.2)))
abbrev bs_ (G : Gx) : Nat → Prop := fun q => G.2.2.2.2 ≤ q
/-- the heap holds the state s, its dynamic cells at a -/
def FW (G : Gx) (a : Ax) (s : Sx) (H : Heap) : Prop := va_P (G.1, G.2.1) cls_ (wl_ G a s) H ∧ va_D (bs_ G) (wl_ G a s)
def setI (s : Sx) (k j i : Nat) (v : Int32) : Sx := (fun k' j' => if k' = k ∧ j' = j then upd (s.1 k j) i v else s.1 k' j', s.2)
def setJ (s : Sx) (k j i : Nat) (v : Int64) : Sx := (s.1, (fun k' j' => if k' = k ∧ j' = j then vp_updL (s.2.1 k j) i v else s.2.1 k' j'), s.2.2)
def setN (s : Sx) (i v : Nat) : Sx := (s.1, s.2.1, fun j => if j = i then v else s.2.2 j)
theorem setI_1 (s : Sx) (k j i : Nat) (v : Int32) : (setI s k j i v).1 k j = upd (s.1 k j) i v := by simp [setI]
theorem setI_n (s : Sx) {k j i : Nat} {v : Int32} {k' j' : Nat} (h : ¬ (k' = k ∧ j' = j)) : (setI s k j i v).1 k' j' = s.1 k' j' := by simp only [setI, if_neg h]
theorem setI_2 (s : Sx) (k j i : Nat) (v : Int32) : (setI s k j i v).2 = s.2 := rfl
theorem setJ_1 (s : Sx) (k j i : Nat) (v : Int64) : (setJ s k j i v).2.1 k j = vp_updL (s.2.1 k j) i v := by simp [setJ]
theorem setJ_n (s : Sx) {k j i : Nat} {v : Int64} {k' j' : Nat} (h : ¬ (k' = k ∧ j' = j)) : (setJ s k j i v).2.1 k' j' = s.2.1 k' j' := by simp only [setJ, if_neg h]
theorem fw_get {G : Gx} {a : Ax} {s : Sx} {k j : Nat} (hm : (k, j) ∈ lx_ s.2.2) : ∃ q0 : Nat, (lx_ s.2.2)[q0]? = some (k, j) ∧ (wl_ G a s)[q0]? = some (adr G a k j, ctf G a s.2.2 k j (s.1 k j) (s.2.1 k j)) := by
  obtain ⟨q0, hq⟩ := List.getElem?_of_mem hm
  exact ⟨q0, hq, by simp [wl_, hq]⟩
theorem map_set_ {α β : Type} {A : Nat → Prop} {L : List α} {f f' : α → Nat × va_E} {q0 : Nat} {x : α} (hD : va_D A (L.map f)) (hq : L[q0]? = some x) (ha : (f' x).1 = (f x).1) (ho : ∀ y, y ≠ x → f' y = f y) : (L.map f).set q0 (f' x) = L.map f' := by
  apply List.ext_getElem?
  intro i
  have hlt : q0 < (L.map f).length := by rw [List.length_map]; exact (List.getElem?_eq_some_iff.mp hq).1
  by_cases hi : i = q0
  · subst hi
    rw [List.getElem?_set_self hlt, List.getElem?_map, hq]; rfl
  · rw [List.getElem?_set_ne (Ne.symm hi), List.getElem?_map, List.getElem?_map]
    cases hy : L[i]? with
    | none => rfl
    | some y =>
      by_cases hyx : y = x
      · subst hyx
        exact absurd (hD.1 i q0 (f y) (f y) (by rw [List.getElem?_map, hy]; rfl) (by rw [List.getElem?_map, hq]; rfl) rfl) hi
      · rw [Option.map_some, Option.map_some, ho y hyx]
/-- a cell's row changes, the rest stays -/
theorem fw_set {G : Gx} {a : Ax} {s s' : Sx} {H1 : Heap} {k j q0 : Nat} {e : va_E} (hD0 : va_D (bs_ G) (wl_ G a s)) (hq : (lx_ s.2.2)[q0]? = some (k, j)) (hn : s'.2.2 = s.2.2) (he : ctf G a s.2.2 k j (s'.1 k j) (s'.2.1 k j) = e) (ho : ∀ k' j', ¬ (k' = k ∧ j' = j) → ctf G a s.2.2 k' j' (s'.1 k' j') (s'.2.1 k' j') = ctf G a s.2.2 k' j' (s.1 k' j') (s.2.1 k' j'))
    (hP : va_P (G.1, G.2.1) cls_ ((wl_ G a s).set q0 (adr G a k j, e)) H1) (hD : va_D (bs_ G) ((wl_ G a s).set q0 (adr G a k j, e))) : FW G a s' H1 := by
  have h : (wl_ G a s).set q0 (adr G a k j, e) = wl_ G a s' := by
    subst he
    unfold wl_ at hD0 ⊢
    rw [hn]
    exact map_set_ (β := Nat) (f' := fun q : Nat × Nat => (adr G a q.1 q.2, ctf G a s.2.2 q.1 q.2 (s'.1 q.1 q.2) (s'.2.1 q.1 q.2))) (x := (k, j)) hD0 hq rfl (fun y hy => by
      have := ho y.1 y.2 (fun hh => hy (Prod.ext hh.1 hh.2))
      rw [this])
  rw [h] at hP hD
  exact ⟨hP, hD⟩
/-- what a walk goes over: program, launch, env, room, start, method, arguments, below, method, code, end; and the world's constants -/
abbrev Kx : Type := Program × Launch × Env × Room × State × MethodId × Array Value × List Frame × Method × Code × (State → Prop) × Gx
abbrev Kx.R (X : Kx) : Room := X.2.2.2.1
abbrev Kx.s (X : Kx) : State := X.2.2.2.2.1
abbrev Kx.m (X : Kx) : MethodId := X.2.2.2.2.2.1
abbrev Kx.av (X : Kx) : Array Value := X.2.2.2.2.2.2.1
abbrev Kx.below (X : Kx) : List Frame := X.2.2.2.2.2.2.2.1
abbrev Kx.meth (X : Kx) : Method := X.2.2.2.2.2.2.2.2.1
abbrev Kx.c (X : Kx) : Code := X.2.2.2.2.2.2.2.2.2.1
abbrev Kx.Q (X : Kx) : State → Prop := X.2.2.2.2.2.2.2.2.2.2.1
abbrev Kx.G (X : Kx) : Gx := X.2.2.2.2.2.2.2.2.2.2.2
/-- what holds throughout the walk -/
def Cx (X : Kx) (cc : ByteArray) (nL : Nat) (own : String) : Prop := X.1.tables.exec = Jvm.exec ∧ X.c.code = cc ∧ X.c.maxLocals = nL ∧ X.s.vm.findClass own = some X.m.cls ∧ (∀ w ∈ gw, w.before X.av X.s = true) ∧ va_K (X.G.1, X.G.2.1) cls_ (tys_ X.G) X.s ∧ nw_ X.s ∧ X.G.2.2.2.2 ≤ X.s.heap.size ∧ X.meth.locks = false
/-- the walk from here comes to its end: at pc, locals lv, stack st, the heap holding s -/
def wk (X : Kx) (a : Ax) (s : Sx) (nL pc : Nat) (lv : List (Nat × Value)) (st : List Value) (ce sl : Nat) : Prop :=
  ∀ (H : Heap) (locs : List Loc) (ls : Array Slot), FW X.G a s H → va_S (bs_ X.G) X.s.heap H locs → lv_has ls nL lv → W X.1 X.2.1 X.2.2.1 X.R X.s X.m X.av X.below X.meth X.c H locs ce sl X.Q (F0 X.m pc ls st)
