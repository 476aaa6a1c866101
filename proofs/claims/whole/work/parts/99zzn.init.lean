/-! the start: the class -/
def jnwx (m : jMe) (a k z n : Nat) : jMe := (a - 31, jT m + n, jat (jK m) a k, jat (jZ m) a z, jat (jI m) a (fun _ => 0), jat (jL m) a (fun _ => 0), jat (jP m) a (fun _ => 0))
theorem jgd_of {α : Type} {p : Prop} [Decidable p] {x z : Option α} (h : p) (h2 : x = z) : jgd p x = z := (jgd_t h).trans h2
theorem jlet_of {α β : Type} {e e' : α} {f : α → β} {z : β} (h : e = e') (h2 : f e' = z) : jlet e f = z := by rw [h]; exact h2
theorem jb_of {α β : Type} {x : Option α} {a : α} {f : α → Option β} {z : Option β} (h : x = some a) (h2 : f a = z) : jb x f = z := by rw [h]; exact h2
def jw1 (L : Nat) (xs : Nat → Int32) : jMe := (jnwx (jm00 L xs) 32 41 0 (jnf 9))
def jw2 (L : Nat) (xs : Nat → Int32) : jMe := (jnwx (jw1 L xs) 33 5 4 4)
def jw3 (L : Nat) (xs : Nat → Int32) : jMe := (jnwx (jsP (jw2 L xs) 32 0 33) 34 6 6 6)
def jw4 (L : Nat) (xs : Nat → Int32) : jMe := (jnwx (jsP (jw3 L xs) 32 1 34) 35 7 4 4)
def jw5 (L : Nat) (xs : Nat → Int32) : jMe := (jnwx (jsP (jw4 L xs) 32 2 35) 36 35 0 (jnf 3))
def jw6 (L : Nat) (xs : Nat → Int32) : jMe := (jsI (jsI (jsI (jsI (jsI (jsI (jsI (jsP (jnwx (jsP (jnwx (jw5 L xs) 37 3 160 160) 36 0 37) 38 1 160 160) 36 1 38) 36 2 (0 : Int32)) 36 3 (0 : Int32)) 36 4 (0 : Int32)) 36 5 (0 : Int32)) 36 6 (0 : Int32)) 36 7 (0 : Int32)) 36 8 (-1 : Int32))
theorem jst_3 (F L : Nat) (xs : Nat → Int32) : c_X3_init F (jw5 L xs) 36 = some (jw6 L xs) := rfl
def jw7 (L : Nat) (xs : Nat → Int32) : jMe := (jnwx (jsP (jw6 L xs) 32 3 36) 39 33 0 (jnf 1))
def jw8 (L : Nat) (xs : Nat → Int32) : jMe := (jsP (jnwx (jsP (jnwx (jsP (jnwx (jsI (jsI (jsI (jsI (jw7 L xs) 39 0 (0 : Int32)) 39 1 (0 : Int32)) 39 2 (0 : Int32)) 39 3 (0 : Int32)) 40 1 4 4) 39 4 40) 41 1 4 4) 39 5 41) 42 1 32 32) 39 6 42)
theorem jst_1 (F L : Nat) (xs : Nat → Int32) : c_X1_init F (jw7 L xs) 39 = some (jw8 L xs) := rfl
def jw9 (L : Nat) (xs : Nat → Int32) : jMe := (jnwx (jsP (jw8 L xs) 32 4 39) 43 38 0 (jnf 6))
def jw10 (L : Nat) (xs : Nat → Int32) : jMe := (jsP (jnwx (jsP (jnwx (jsP (jsI (jnwx (jw9 L xs) 44 32 0 (jnf 0)) 44 0 (0 : Int32)) 43 0 44) 45 2 8 8) 43 1 45) 46 2 8 8) 43 2 46)
theorem jst_6 (F L : Nat) (xs : Nat → Int32) : c_X6_init F (jw9 L xs) 43 = some (jw10 L xs) := rfl
def jw11 (L : Nat) (xs : Nat → Int32) : jMe := (jnwx (jsP (jw10 L xs) 32 5 43) 47 1 12 12)
def jw12 (L : Nat) (xs : Nat → Int32) : jMe := (jsP (jw11 L xs) 32 6 47)
def jw13 (L : Nat) (xs : Nat → Int32) : jMe := (jnwx (jw12 L xs) 48 1 12 12)
def jw14 (L : Nat) (xs : Nat → Int32) : jMe := (jnwx (jsP (jw13 L xs) 32 7 48) 49 34 0 (jnf 2))
def jw15 (L : Nat) (xs : Nat → Int32) : jMe := (jnwx (jw14 L xs) 50 40 0 (jnf 8))
def jw16 (L : Nat) (xs : Nat → Int32) : jMe := (jsI (jsI (jsI (jsI (jsP (jnwx (jsP (jnwx (jsP (jnwx (jsP (jnwx (jw15 L xs) 51 1 4 4) 50 0 51) 52 1 4 4) 50 1 52) 53 1 4 4) 50 2 53) 54 1 4 4) 50 3 54) 50 4 (0 : Int32)) 50 5 (-1 : Int32)) 50 6 (0 : Int32)) 50 7 (0 : Int32))
theorem jst_8_49 (F L : Nat) (xs : Nat → Int32) : c_X8_init F (jw15 L xs) 50 = some (jw16 L xs) := rfl
def jw17 (L : Nat) (xs : Nat → Int32) : jMe := (jnwx (jsP (jw16 L xs) 49 0 50) 55 2 32 32)
def jw18 (L : Nat) (xs : Nat → Int32) : jMe := (jnwx (jsP (jw17 L xs) 49 1 55) 56 2 4 4)
def jw19 (L : Nat) (xs : Nat → Int32) : jMe := (jnwx (jsP (jw18 L xs) 49 2 56) 57 2 128 128)
def jw20 (L : Nat) (xs : Nat → Int32) : jMe := (jnwx (jsP (jw19 L xs) 49 3 57) 58 2 32 32)
def jw21 (L : Nat) (xs : Nat → Int32) : jMe := (jsL (jsI (jsP (jw20 L xs) 49 4 58) 49 5 (0 : Int32)) 49 6 (0 : Int64))
def jw22 (L : Nat) (xs : Nat → Int32) : jMe := (jnwx (jsI (jw21 L xs) 49 7 (0 : Int32)) 59 32 0 (jnf 0))
def jw23 (L : Nat) (xs : Nat → Int32) : jMe := (jsI (jw22 L xs) 59 0 (0 : Int32))
theorem jst_0_49 (F L : Nat) (xs : Nat → Int32) : c_X0_init F (jw22 L xs) 59 = some (jw23 L xs) := rfl
def jw24 (L : Nat) (xs : Nat → Int32) : jMe := (jnwx (jsP (jw23 L xs) 49 8 59) 60 1 4 4)
def jw25 (L : Nat) (xs : Nat → Int32) : jMe := (jnwx (jsP (jw24 L xs) 49 9 60) 61 1 4 4)
def jw26 (L : Nat) (xs : Nat → Int32) : jMe := (jnwx (jsP (jw25 L xs) 49 10 61) 62 2 4 4)
def jw27 (L : Nat) (xs : Nat → Int32) : jMe := (jsI (jsP (jsP (jw26 L xs) 49 11 62) 49 12 0) 49 13 (0 : Int32))
def jw28 (L : Nat) (xs : Nat → Int32) : jMe := (jsI (jsI (jsL (jsI (jw27 L xs) 49 14 (0 : Int32)) 49 15 (0 : Int64)) 49 16 (0 : Int32)) 49 17 (0 : Int32))
theorem jst_2_49 (F L : Nat) (xs : Nat → Int32) : c_X2_init F (jw14 L xs) 49 = some (jw28 L xs) := by
  unfold c_X2_init
  refine jgd_of (by decide) ?_
  refine jlet_of (e' := jw15 L xs) rfl ?_
  refine jb_of (jst_8_49 F L xs) ?_
  refine jgd_of (rfl) ?_
  refine jgd_of (by decide) ?_
  refine jlet_of (e' := jw17 L xs) rfl ?_
  refine jgd_of (rfl) ?_
  refine jgd_of (by decide) ?_
  refine jlet_of (e' := jw18 L xs) rfl ?_
  refine jgd_of (rfl) ?_
  refine jgd_of (by decide) ?_
  refine jlet_of (e' := jw19 L xs) rfl ?_
  refine jgd_of (rfl) ?_
  refine jgd_of (by decide) ?_
  refine jlet_of (e' := jw20 L xs) rfl ?_
  refine jgd_of (rfl) ?_
  refine jlet_of (e' := jw21 L xs) rfl ?_
  refine jgd_of (rfl) ?_
  refine jlet_of (e' := jw22 L xs) rfl ?_
  refine jb_of (jst_0_49 F L xs) ?_
  refine jgd_of (rfl) ?_
  refine jgd_of (by decide) ?_
  refine jlet_of (e' := jw24 L xs) rfl ?_
  refine jgd_of (rfl) ?_
  refine jgd_of (by decide) ?_
  refine jlet_of (e' := jw25 L xs) rfl ?_
  refine jgd_of (rfl) ?_
  refine jgd_of (by decide) ?_
  refine jlet_of (e' := jw26 L xs) rfl ?_
  refine jgd_of (rfl) ?_
  refine jlet_of (e' := jw27 L xs) rfl ?_
  refine jgd_of (rfl) ?_
  rfl
def jw29 (L : Nat) (xs : Nat → Int32) : jMe := (jnwx (jsP (jw28 L xs) 32 8 49) 63 34 0 (jnf 2))
def jw30 (L : Nat) (xs : Nat → Int32) : jMe := (jnwx (jw29 L xs) 64 40 0 (jnf 8))
def jw31 (L : Nat) (xs : Nat → Int32) : jMe := (jsI (jsI (jsI (jsI (jsP (jnwx (jsP (jnwx (jsP (jnwx (jsP (jnwx (jw30 L xs) 65 1 4 4) 64 0 65) 66 1 4 4) 64 1 66) 67 1 4 4) 64 2 67) 68 1 4 4) 64 3 68) 64 4 (0 : Int32)) 64 5 (-1 : Int32)) 64 6 (0 : Int32)) 64 7 (0 : Int32))
theorem jst_8_63 (F L : Nat) (xs : Nat → Int32) : c_X8_init F (jw30 L xs) 64 = some (jw31 L xs) := rfl
def jw32 (L : Nat) (xs : Nat → Int32) : jMe := (jnwx (jsP (jw31 L xs) 63 0 64) 69 2 32 32)
def jw33 (L : Nat) (xs : Nat → Int32) : jMe := (jnwx (jsP (jw32 L xs) 63 1 69) 70 2 4 4)
def jw34 (L : Nat) (xs : Nat → Int32) : jMe := (jnwx (jsP (jw33 L xs) 63 2 70) 71 2 128 128)
def jw35 (L : Nat) (xs : Nat → Int32) : jMe := (jnwx (jsP (jw34 L xs) 63 3 71) 72 2 32 32)
def jw36 (L : Nat) (xs : Nat → Int32) : jMe := (jsL (jsI (jsP (jw35 L xs) 63 4 72) 63 5 (0 : Int32)) 63 6 (0 : Int64))
def jw37 (L : Nat) (xs : Nat → Int32) : jMe := (jnwx (jsI (jw36 L xs) 63 7 (0 : Int32)) 73 32 0 (jnf 0))
def jw38 (L : Nat) (xs : Nat → Int32) : jMe := (jsI (jw37 L xs) 73 0 (0 : Int32))
theorem jst_0_63 (F L : Nat) (xs : Nat → Int32) : c_X0_init F (jw37 L xs) 73 = some (jw38 L xs) := rfl
def jw39 (L : Nat) (xs : Nat → Int32) : jMe := (jnwx (jsP (jw38 L xs) 63 8 73) 74 1 4 4)
def jw40 (L : Nat) (xs : Nat → Int32) : jMe := (jnwx (jsP (jw39 L xs) 63 9 74) 75 1 4 4)
def jw41 (L : Nat) (xs : Nat → Int32) : jMe := (jnwx (jsP (jw40 L xs) 63 10 75) 76 2 4 4)
def jw42 (L : Nat) (xs : Nat → Int32) : jMe := (jsI (jsP (jsP (jw41 L xs) 63 11 76) 63 12 0) 63 13 (0 : Int32))
def jw43 (L : Nat) (xs : Nat → Int32) : jMe := (jsI (jsI (jsL (jsI (jw42 L xs) 63 14 (0 : Int32)) 63 15 (0 : Int64)) 63 16 (0 : Int32)) 63 17 (0 : Int32))
theorem jst_2_63 (F L : Nat) (xs : Nat → Int32) : c_X2_init F (jw29 L xs) 63 = some (jw43 L xs) := by
  unfold c_X2_init
  refine jgd_of (by decide) ?_
  refine jlet_of (e' := jw30 L xs) rfl ?_
  refine jb_of (jst_8_63 F L xs) ?_
  refine jgd_of (rfl) ?_
  refine jgd_of (by decide) ?_
  refine jlet_of (e' := jw32 L xs) rfl ?_
  refine jgd_of (rfl) ?_
  refine jgd_of (by decide) ?_
  refine jlet_of (e' := jw33 L xs) rfl ?_
  refine jgd_of (rfl) ?_
  refine jgd_of (by decide) ?_
  refine jlet_of (e' := jw34 L xs) rfl ?_
  refine jgd_of (rfl) ?_
  refine jgd_of (by decide) ?_
  refine jlet_of (e' := jw35 L xs) rfl ?_
  refine jgd_of (rfl) ?_
  refine jlet_of (e' := jw36 L xs) rfl ?_
  refine jgd_of (rfl) ?_
  refine jlet_of (e' := jw37 L xs) rfl ?_
  refine jb_of (jst_0_63 F L xs) ?_
  refine jgd_of (rfl) ?_
  refine jgd_of (by decide) ?_
  refine jlet_of (e' := jw39 L xs) rfl ?_
  refine jgd_of (rfl) ?_
  refine jgd_of (by decide) ?_
  refine jlet_of (e' := jw40 L xs) rfl ?_
  refine jgd_of (rfl) ?_
  refine jgd_of (by decide) ?_
  refine jlet_of (e' := jw41 L xs) rfl ?_
  refine jgd_of (rfl) ?_
  refine jlet_of (e' := jw42 L xs) rfl ?_
  refine jgd_of (rfl) ?_
  rfl
def jw44 (L : Nat) (xs : Nat → Int32) : jMe := (jsI (jsI (jsI (jsI (jsP (jw43 L xs) 32 9 63) 32 10 (1 : Int32)) 32 11 (0 : Int32)) 32 12 (1 : Int32)) 32 13 (0 : Int32))
def jw45 (L : Nat) (xs : Nat → Int32) : jMe := (jsI (jsI (jw44 L xs) 32 14 (0 : Int32)) 32 15 (0 : Int32))
def jw46 (L : Nat) (xs : Nat → Int32) : jMe := (jnwx (jw45 L xs) 77 36 0 (jnf 4))
def jw47 (L : Nat) (xs : Nat → Int32) : jMe := (jsI (jsI (jsI (jsI (jsI (jsP (jnwx (jsP (jnwx (jw46 L xs) 78 1 8 8) 77 0 78) 79 1 8 8) 77 1 79) 77 2 (0 : Int32)) 77 3 (0 : Int32)) 77 4 (0 : Int32)) 77 5 (0 : Int32)) 77 6 (0 : Int32))
theorem jst_4_0 (F L : Nat) (xs : Nat → Int32) : c_X4_init F (jw46 L xs) 77 = some (jw47 L xs) := rfl
def jw48 (L : Nat) (xs : Nat → Int32) : jMe := (jsP (jw47 L xs) 33 0 77)
set_option maxRecDepth 40000 in
theorem jst_a0 (F f L : Nat) (xs : Nat → Int32) : c_X9_init_l132 F (f + 1) (jw45 L xs) 32 (0 : Int32) = c_X9_init_l132 F f (jw48 L xs) 32 (1 : Int32) := by
  show c_X9_init_l132_b F _ _ _ _ = _
  unfold c_X9_init_l132_b
  rw [if_neg (by decide)]
  refine jgd_of rfl ?_
  refine jlet_of (e' := jw46 L xs) rfl ?_
  refine jb_of (jst_4_0 F L xs) ?_
  refine jgd_of rfl ?_
  refine jgd_of rfl ?_
  refine jgd_of rfl ?_
  rfl
def jw49 (L : Nat) (xs : Nat → Int32) : jMe := (jnwx (jw48 L xs) 80 36 0 (jnf 4))
def jw50 (L : Nat) (xs : Nat → Int32) : jMe := (jsI (jsI (jsI (jsI (jsI (jsP (jnwx (jsP (jnwx (jw49 L xs) 81 1 8 8) 80 0 81) 82 1 8 8) 80 1 82) 80 2 (0 : Int32)) 80 3 (0 : Int32)) 80 4 (0 : Int32)) 80 5 (0 : Int32)) 80 6 (0 : Int32))
theorem jst_4_1 (F L : Nat) (xs : Nat → Int32) : c_X4_init F (jw49 L xs) 80 = some (jw50 L xs) := rfl
def jw51 (L : Nat) (xs : Nat → Int32) : jMe := (jsP (jw50 L xs) 33 1 80)
set_option maxRecDepth 40000 in
theorem jst_a1 (F f L : Nat) (xs : Nat → Int32) : c_X9_init_l132 F (f + 1) (jw48 L xs) 32 (1 : Int32) = c_X9_init_l132 F f (jw51 L xs) 32 (2 : Int32) := by
  show c_X9_init_l132_b F _ _ _ _ = _
  unfold c_X9_init_l132_b
  rw [if_neg (by decide)]
  refine jgd_of rfl ?_
  refine jlet_of (e' := jw49 L xs) rfl ?_
  refine jb_of (jst_4_1 F L xs) ?_
  refine jgd_of rfl ?_
  refine jgd_of rfl ?_
  refine jgd_of rfl ?_
  rfl
def jw52 (L : Nat) (xs : Nat → Int32) : jMe := (jnwx (jw51 L xs) 83 36 0 (jnf 4))
def jw53 (L : Nat) (xs : Nat → Int32) : jMe := (jsI (jsI (jsI (jsI (jsI (jsP (jnwx (jsP (jnwx (jw52 L xs) 84 1 8 8) 83 0 84) 85 1 8 8) 83 1 85) 83 2 (0 : Int32)) 83 3 (0 : Int32)) 83 4 (0 : Int32)) 83 5 (0 : Int32)) 83 6 (0 : Int32))
theorem jst_4_2 (F L : Nat) (xs : Nat → Int32) : c_X4_init F (jw52 L xs) 83 = some (jw53 L xs) := rfl
def jw54 (L : Nat) (xs : Nat → Int32) : jMe := (jsP (jw53 L xs) 33 2 83)
set_option maxRecDepth 40000 in
theorem jst_a2 (F f L : Nat) (xs : Nat → Int32) : c_X9_init_l132 F (f + 1) (jw51 L xs) 32 (2 : Int32) = c_X9_init_l132 F f (jw54 L xs) 32 (3 : Int32) := by
  show c_X9_init_l132_b F _ _ _ _ = _
  unfold c_X9_init_l132_b
  rw [if_neg (by decide)]
  refine jgd_of rfl ?_
  refine jlet_of (e' := jw52 L xs) rfl ?_
  refine jb_of (jst_4_2 F L xs) ?_
  refine jgd_of rfl ?_
  refine jgd_of rfl ?_
  refine jgd_of rfl ?_
  rfl
def jw55 (L : Nat) (xs : Nat → Int32) : jMe := (jnwx (jw54 L xs) 86 36 0 (jnf 4))
def jw56 (L : Nat) (xs : Nat → Int32) : jMe := (jsI (jsI (jsI (jsI (jsI (jsP (jnwx (jsP (jnwx (jw55 L xs) 87 1 8 8) 86 0 87) 88 1 8 8) 86 1 88) 86 2 (0 : Int32)) 86 3 (0 : Int32)) 86 4 (0 : Int32)) 86 5 (0 : Int32)) 86 6 (0 : Int32))
theorem jst_4_3 (F L : Nat) (xs : Nat → Int32) : c_X4_init F (jw55 L xs) 86 = some (jw56 L xs) := rfl
def jw57 (L : Nat) (xs : Nat → Int32) : jMe := (jsP (jw56 L xs) 33 3 86)
set_option maxRecDepth 40000 in
theorem jst_a3 (F f L : Nat) (xs : Nat → Int32) : c_X9_init_l132 F (f + 1) (jw54 L xs) 32 (3 : Int32) = c_X9_init_l132 F f (jw57 L xs) 32 (4 : Int32) := by
  show c_X9_init_l132_b F _ _ _ _ = _
  unfold c_X9_init_l132_b
  rw [if_neg (by decide)]
  refine jgd_of rfl ?_
  refine jlet_of (e' := jw55 L xs) rfl ?_
  refine jb_of (jst_4_3 F L xs) ?_
  refine jgd_of rfl ?_
  refine jgd_of rfl ?_
  refine jgd_of rfl ?_
  rfl
set_option maxRecDepth 40000 in
theorem jst_a (F L : Nat) (xs : Nat → Int32) : c_X9_init_l132 (F + 5) (F + 5) (jw45 L xs) 32 (0 : Int32) = some (jw57 L xs, 32) := by
  rw [jst_a0 (F + 5) (F + 4), jst_a1 (F + 5) (F + 3), jst_a2 (F + 5) (F + 2), jst_a3 (F + 5) (F + 1)]
  show c_X9_init_l132_b (F + 5) _ _ _ _ = _
  unfold c_X9_init_l132_b
  rw [if_pos (by decide)]
def jw58 (L : Nat) (xs : Nat → Int32) : jMe := (jnwx (jw57 L xs) 89 37 0 (jnf 5))
def jw59 (L : Nat) (xs : Nat → Int32) : jMe := (jsI (jsI (jsP (jnwx (jw58 L xs) 90 2 40 40) 89 0 90) 89 1 (-1 : Int32)) 89 2 (0 : Int32))
theorem jst_5_0 (F L : Nat) (xs : Nat → Int32) : c_X5_init F (jw58 L xs) 89 = some (jw59 L xs) := rfl
def jw60 (L : Nat) (xs : Nat → Int32) : jMe := (jsP (jw59 L xs) 35 0 89)
set_option maxRecDepth 40000 in
theorem jst_b0 (F f L : Nat) (xs : Nat → Int32) : c_X9_init_l158 F (f + 1) (jw57 L xs) 32 (0 : Int32) = c_X9_init_l158 F f (jw60 L xs) 32 (1 : Int32) := by
  show c_X9_init_l158_b F _ _ _ _ = _
  unfold c_X9_init_l158_b
  rw [if_neg (by decide)]
  refine jgd_of rfl ?_
  refine jlet_of (e' := jw58 L xs) rfl ?_
  refine jb_of (jst_5_0 F L xs) ?_
  refine jgd_of rfl ?_
  refine jgd_of rfl ?_
  refine jgd_of rfl ?_
  rfl
def jw61 (L : Nat) (xs : Nat → Int32) : jMe := (jnwx (jw60 L xs) 91 37 0 (jnf 5))
def jw62 (L : Nat) (xs : Nat → Int32) : jMe := (jsI (jsI (jsP (jnwx (jw61 L xs) 92 2 40 40) 91 0 92) 91 1 (-1 : Int32)) 91 2 (0 : Int32))
theorem jst_5_1 (F L : Nat) (xs : Nat → Int32) : c_X5_init F (jw61 L xs) 91 = some (jw62 L xs) := rfl
def jw63 (L : Nat) (xs : Nat → Int32) : jMe := (jsP (jw62 L xs) 35 1 91)
set_option maxRecDepth 40000 in
theorem jst_b1 (F f L : Nat) (xs : Nat → Int32) : c_X9_init_l158 F (f + 1) (jw60 L xs) 32 (1 : Int32) = c_X9_init_l158 F f (jw63 L xs) 32 (2 : Int32) := by
  show c_X9_init_l158_b F _ _ _ _ = _
  unfold c_X9_init_l158_b
  rw [if_neg (by decide)]
  refine jgd_of rfl ?_
  refine jlet_of (e' := jw61 L xs) rfl ?_
  refine jb_of (jst_5_1 F L xs) ?_
  refine jgd_of rfl ?_
  refine jgd_of rfl ?_
  refine jgd_of rfl ?_
  rfl
def jw64 (L : Nat) (xs : Nat → Int32) : jMe := (jnwx (jw63 L xs) 93 37 0 (jnf 5))
def jw65 (L : Nat) (xs : Nat → Int32) : jMe := (jsI (jsI (jsP (jnwx (jw64 L xs) 94 2 40 40) 93 0 94) 93 1 (-1 : Int32)) 93 2 (0 : Int32))
theorem jst_5_2 (F L : Nat) (xs : Nat → Int32) : c_X5_init F (jw64 L xs) 93 = some (jw65 L xs) := rfl
def jw66 (L : Nat) (xs : Nat → Int32) : jMe := (jsP (jw65 L xs) 35 2 93)
set_option maxRecDepth 40000 in
theorem jst_b2 (F f L : Nat) (xs : Nat → Int32) : c_X9_init_l158 F (f + 1) (jw63 L xs) 32 (2 : Int32) = c_X9_init_l158 F f (jw66 L xs) 32 (3 : Int32) := by
  show c_X9_init_l158_b F _ _ _ _ = _
  unfold c_X9_init_l158_b
  rw [if_neg (by decide)]
  refine jgd_of rfl ?_
  refine jlet_of (e' := jw64 L xs) rfl ?_
  refine jb_of (jst_5_2 F L xs) ?_
  refine jgd_of rfl ?_
  refine jgd_of rfl ?_
  refine jgd_of rfl ?_
  rfl
def jw67 (L : Nat) (xs : Nat → Int32) : jMe := (jnwx (jw66 L xs) 95 37 0 (jnf 5))
def jw68 (L : Nat) (xs : Nat → Int32) : jMe := (jsI (jsI (jsP (jnwx (jw67 L xs) 96 2 40 40) 95 0 96) 95 1 (-1 : Int32)) 95 2 (0 : Int32))
theorem jst_5_3 (F L : Nat) (xs : Nat → Int32) : c_X5_init F (jw67 L xs) 95 = some (jw68 L xs) := rfl
def jw69 (L : Nat) (xs : Nat → Int32) : jMe := (jsP (jw68 L xs) 35 3 95)
set_option maxRecDepth 40000 in
theorem jst_b3 (F f L : Nat) (xs : Nat → Int32) : c_X9_init_l158 F (f + 1) (jw66 L xs) 32 (3 : Int32) = c_X9_init_l158 F f (jw69 L xs) 32 (4 : Int32) := by
  show c_X9_init_l158_b F _ _ _ _ = _
  unfold c_X9_init_l158_b
  rw [if_neg (by decide)]
  refine jgd_of rfl ?_
  refine jlet_of (e' := jw67 L xs) rfl ?_
  refine jb_of (jst_5_3 F L xs) ?_
  refine jgd_of rfl ?_
  refine jgd_of rfl ?_
  refine jgd_of rfl ?_
  rfl
set_option maxRecDepth 40000 in
theorem jst_b (F L : Nat) (xs : Nat → Int32) : c_X9_init_l158 (F + 5) (F + 5) (jw57 L xs) 32 (0 : Int32) = some (jw69 L xs, 32) := by
  rw [jst_b0 (F + 5) (F + 4), jst_b1 (F + 5) (F + 3), jst_b2 (F + 5) (F + 2), jst_b3 (F + 5) (F + 1)]
  show c_X9_init_l158_b (F + 5) _ _ _ _ = _
  unfold c_X9_init_l158_b
  rw [if_pos (by decide)]
def jw70 (L : Nat) (xs : Nat → Int32) : jMe := (jnwx (jw69 L xs) 97 39 0 (jnf 7))
def jw71 (L : Nat) (xs : Nat → Int32) : jMe := (jnwx (jw70 L xs) 98 1 1 1)
def jw72 (L : Nat) (xs : Nat → Int32) : jMe := (jsI (jw71 L xs) 98 0 (16 : Int32))
def jw73 (L : Nat) (xs : Nat → Int32) : jMe := (jnwx (jw72 L xs) 99 1 64 64)
def jw74 (L : Nat) (xs : Nat → Int32) : jMe := (jsP (jw73 L xs) 97 1 99)
def jw75 (L : Nat) (xs : Nat → Int32) : jMe := (jdup (jw74 L xs) 98)
def jw76 (L : Nat) (xs : Nat → Int32) : jMe := (jsP (jw75 L xs) 97 0 100)
def jw77 (L : Nat) (xs : Nat → Int32) : jMe := (jsP (jw76 L xs) 34 0 97)
set_option maxRecDepth 40000 in
theorem jst_c (F L : Nat) (xs : Nat → Int32) : c_J7_copyOf_59c91 F (jw74 L xs) 98 (1 : Int32) = some (100, jw75 L xs) := by
  unfold c_J7_copyOf_59c91
  refine jgd_of rfl ?_
  refine (if_pos (show (1 : Int32) = Int32.ofNat (jZ (jw74 L xs) 98) from rfl)).trans ?_
  rfl
set_option maxRecDepth 40000 in
theorem jst_7 (F L : Nat) (xs : Nat → Int32) : c_X7_init F (jw72 L xs) 97 98 (1 : Int32) = some (jw76 L xs) := by
  unfold c_X7_init
  refine jgd_of (by decide) ?_
  refine jgd_of (by decide) ?_
  refine jlet_of (e' := jw73 L xs) rfl ?_
  refine jgd_of rfl ?_
  refine jb_of (a := (100, jw75 L xs)) (jst_c F L xs) ?_
  refine jgd_of rfl ?_
  rfl
set_option maxRecDepth 40000 in
theorem jst_9 (F L : Nat) (xs : Nat → Int32) : c_X9_init (F + 5) (jw1 L xs) 32 = some (jw77 L xs) := by
  unfold c_X9_init
  refine jgd_of (by decide) ?_
  refine jgd_of (by decide) ?_
  refine jlet_of (e' := jw2 L xs) rfl ?_
  refine jgd_of (rfl) ?_
  refine jgd_of (by decide) ?_
  refine jlet_of (e' := jw3 L xs) rfl ?_
  refine jgd_of (rfl) ?_
  refine jgd_of (by decide) ?_
  refine jlet_of (e' := jw4 L xs) rfl ?_
  refine jgd_of (rfl) ?_
  refine jlet_of (e' := jw5 L xs) rfl ?_
  refine jb_of (jst_3 (F + 5) L xs) ?_
  refine jgd_of (rfl) ?_
  refine jlet_of (e' := jw7 L xs) rfl ?_
  refine jb_of (jst_1 (F + 5) L xs) ?_
  refine jgd_of (rfl) ?_
  refine jlet_of (e' := jw9 L xs) rfl ?_
  refine jb_of (jst_6 (F + 5) L xs) ?_
  refine jgd_of (rfl) ?_
  refine jgd_of (by decide) ?_
  refine jlet_of (e' := jw11 L xs) rfl ?_
  refine jgd_of (rfl) ?_
  refine jlet_of (e' := jw12 L xs) rfl ?_
  refine jgd_of (by decide) ?_
  refine jlet_of (e' := jw13 L xs) rfl ?_
  refine jgd_of (rfl) ?_
  refine jlet_of (e' := jw14 L xs) rfl ?_
  refine jb_of (jst_2_49 (F + 5) L xs) ?_
  refine jgd_of (rfl) ?_
  refine jlet_of (e' := jw29 L xs) rfl ?_
  refine jb_of (jst_2_63 (F + 5) L xs) ?_
  refine jgd_of (rfl) ?_
  refine jlet_of (e' := jw44 L xs) rfl ?_
  refine jgd_of (rfl) ?_
  refine jb_of (jst_a F L xs) ?_
  refine jb_of (jst_b F L xs) ?_
  refine jgd_of (rfl) ?_
  refine jlet_of (e' := jw70 L xs) rfl ?_
  refine jgd_of (by decide) ?_
  refine jlet_of (e' := jw71 L xs) rfl ?_
  refine jgd_of (rfl) ?_
  refine jgd_of (rfl) ?_
  refine jb_of (jst_7 (F + 5) L xs) ?_
  refine jgd_of (rfl) ?_
  refine jgd_of (rfl) ?_
  refine jgd_of (rfl) ?_
  rfl
