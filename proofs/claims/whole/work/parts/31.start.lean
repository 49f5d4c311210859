/-- the state behind both constructors -/
def s0a : List (Nat → Int32) := [z0, z0, z0, z0, z0, z0, z0, z0, z0, (upd (upd z0 1 25) 2 30), (upd (upd (upd z0 0 100) 1 120) 2 150), z0, z0, z0, (upd z0 3 1), z0, z0, (upd (upd (upd (upd (upd z0 0 1) 1 1) 2 1) 3 1) 4 1), (upd (upd (upd (upd (upd z0 0 1) 1 1) 2 1) 3 1) 4 1), z0, z0, z0, z0, z0, (flI 100 24 z0), z0, z0, z0, z0, z0, z0, z0, z0, z0, z0, z0, z0, z0, z0, z0, z0, z0, (upd z0 1 (-1)), (upd z0 1 (-1)), (upd z0 1 (-1)), (upd z0 1 (-1)), z0, z0, z0, z0]
def s0m : List (Nat → Int32) := [z0, z0, (upd (upd (upd (upd z0 0 (-9)) 1 (-9)) 2 (-9)) 3 (-9)), z0, z0, z0, z0, z0, z0, z0, z0, z0, z0, z0, z0, z0, z0, z0, z0, z0, z0, z0, z0, z0, z0, z0, z0, z0, (upd (upd (upd z0 0 100) 1 120) 2 150), z0, z0, z0, z0, z0, z0, z0, z0, z0, z0, z0, z0, z0, z0, z0, z0, z0, z0, (upd (upd (upd (upd (upd z0 0 1) 1 1) 2 1) 3 1) 4 1), (upd (upd (upd (upd (upd z0 0 1) 1 1) 2 1) 3 1) 4 1), (upd (upd (upd (upd (upd (upd (upd (upd (upd (upd (upd (upd (upd (upd (upd (upd (upd (upd (upd (upd (upd (upd (upd (upd z0 0 100) 1 100) 2 100) 3 100) 4 100) 5 100) 6 100) 7 100) 8 100) 9 100) 10 100) 11 100) 12 100) 13 100) 14 100) 15 100) 16 100) 17 100) 18 100) 19 100) 20 100) 21 100) 22 100) 23 100), z0, z0, z0, z0, z0, z0, z0, z0, z0, z0, z0, z0, z0, z0, z0, z0, z0, z0, z0, z0, z0]
def s0_ : Sx := (fun k j => match k with
  | 0 => (s0a[j]?).getD z0
  | 5 => (s0m[j]?).getD z0
  | 6 => (upd (upd (upd z0 29 25) 30 30) 45 1)
  | _ => z0, fun _ _ => zJ, fun _ => 0)
def af_ (o1 : Nat) (q : Nat → Nat) (o2 : Nat) (r : Nat → Nat) : Nat → Nat → Nat := fun k j => match k with
  | 0 => ([o1, (q 0), (q 1), (q 2), (q 3), (q 4), (q 5), (q 6), (q 7), (q 8), (q 9), (q 10), (q 11), (q 12), (q 13), (q 14), (q 15), (q 16), (q 17), (q 18), (q 19), (q 20), (q 21), (q 22), (q 23), (q 24), (q 25), (q 26), (q 27), (q 28), (q 29), (q 30), (q 31), (q 32), (q 33), (q 34), (q 35), (q 36), (q 37), (q 38), (q 39), (q 40), (q 41), (q 43), (q 45), (q 47), (q 42), (q 44), (q 46), (q 48)][j]?).getD 0
  | 5 => ([0, 0, (r 0), (r 1), (r 2), 0, (r 3), (r 4), (r 5), 0, 0, (r 6), (r 7), (r 8), (r 9), (r 10), 0, (r 11), (r 12), (r 13), (r 14), (r 15), (r 16), (r 17), (r 18), 0, 0, 0, (r 19), 0, 0, 0, (r 20), (r 21), (r 22), 0, (r 23), (r 24), (r 25), (r 26), (r 27), (r 28), (r 29), (r 30), (r 31), 0, 0, (r 32), (r 33), (r 34), 0, (r 35), (r 36), (r 37), (r 38), 0, (r 39), (r 40), (r 41), (r 42), (r 43), (r 44), (r 45), 0, (r 46), (r 47), (r 48), (r 49), (r 50), (r 51), (r 52)][j]?).getD 0
  | _ => o2
theorem sh_fn (a0 a1 a2 a3 : Nat) (g : Nat → Nat) (h0 : g 42 = a0) (h1 : g 43 = a1) (h2 : g 44 = a2) (h3 : g 45 = a3) : (va_up (va_up (va_up (va_up zP 0 (some a0)) 1 (some a1)) 2 (some a2)) 3 (some a3) : Nat → Option Nat) = fun i => if i < 4 then some (g (42 + i)) else none := by
  funext i
  match i with
  | 0 => show some a0 = some (g 42); rw [h0]
  | 1 => show some a1 = some (g 43); rw [h1]
  | 2 => show some a2 = some (g 44); rw [h2]
  | 3 => show some a3 = some (g 45); rw [h3]
  | i + 4 => show none = if i + 4 < 4 then _ else none; rw [if_neg (by omega)]
set_option maxRecDepth 100000 in
set_option maxHeartbeats 8000000 in
theorem fw_start {G G' : Gx} {a : Ax} {o1 o2 : Nat} {q r : Nat → Nat} {H : Heap} (hG : G' = (G.1, G.2.1, G.2.2.1, af_ o1 q o2 r, G.2.2.2.2)) (hP : va_P (G.1, G.2.1) cls_ (out_X11_init G o1 q ++ out_X12_init G o2 r) H) (hD : va_D (bs_ G) (out_X11_init G o1 q ++ out_X12_init G o2 r)) : FW G' a s0_ H := by
  subst hG
  have hs : ((va_up (va_up (va_up (va_up zP 0 (some (q 41))) 1 (some (q 43))) 2 (some (q 45))) 3 (some (q 47))) : Nat → Option Nat) = fun i => if i < 4 then some (af_ o1 q o2 r 0 (42 + i)) else none := sh_fn _ _ _ _ (af_ o1 q o2 r 0) rfl rfl rfl rfl
  unfold out_X11_init at hP hD
  rw [hs] at hP hD
  exact ⟨hP.sub [0, 1, 2, 3, 4, 5, 6, 7, 8, 9, 10, 11, 12, 13, 14, 15, 16, 17, 18, 19, 20, 21, 22, 23, 24, 25, 26, 27, 28, 29, 30, 31, 32, 33, 34, 35, 36, 37, 38, 39, 40, 41, 42, 44, 46, 48, 43, 45, 47, 49, 51, 52, 53, 54, 55, 56, 57, 58, 59, 60, 61, 62, 63, 64, 65, 66, 67, 68, 69, 70, 71, 72, 73, 74, 75, 76, 77, 78, 79, 80, 81, 82, 83, 84, 85, 86, 87, 88, 89, 90, 91, 92, 93, 94, 95, 96, 97, 98, 99, 100, 101, 102, 103, 50] rfl, hD.sub [0, 1, 2, 3, 4, 5, 6, 7, 8, 9, 10, 11, 12, 13, 14, 15, 16, 17, 18, 19, 20, 21, 22, 23, 24, 25, 26, 27, 28, 29, 30, 31, 32, 33, 34, 35, 36, 37, 38, 39, 40, 41, 42, 44, 46, 48, 43, 45, 47, 49, 51, 52, 53, 54, 55, 56, 57, 58, 59, 60, 61, 62, 63, 64, 65, 66, 67, 68, 69, 70, 71, 72, 73, 74, 75, 76, 77, 78, 79, 80, 81, 82, 83, 84, 85, 86, 87, 88, 89, 90, 91, 92, 93, 94, 95, 96, 97, 98, 99, 100, 101, 102, 103, 50] (by decide) rfl⟩
