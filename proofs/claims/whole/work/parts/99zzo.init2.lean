/-! the start: the reference -/
def jw78 (L : Nat) (xs : Nat → Int32) : jMe := (jnwx (jw77 L xs) 101 42 0 (jnf 10))
def jw79 (L : Nat) (xs : Nat → Int32) : jMe := (jnwx (jw78 L xs) 102 1 960 960)
def jw80 (L : Nat) (xs : Nat → Int32) : jMe := (jnwx (jsP (jw79 L xs) 101 1 102) 103 1 6 6)
def jw81 (L : Nat) (xs : Nat → Int32) : jMe := (jnwx (jsP (jw80 L xs) 101 2 103) 104 1 160 160)
def jw82 (L : Nat) (xs : Nat → Int32) : jMe := (jnwx (jsP (jw81 L xs) 101 5 104) 105 1 4 4)
def jw83 (L : Nat) (xs : Nat → Int32) : jMe := (jnwx (jsP (jw82 L xs) 101 7 105) 106 1 4 4)
def jw84 (L : Nat) (xs : Nat → Int32) : jMe := (jnwx (jsP (jw83 L xs) 101 8 106) 107 1 4 4)
def jw85 (L : Nat) (xs : Nat → Int32) : jMe := (jnwx (jsP (jw84 L xs) 101 9 107) 108 1 192 192)
def jw86 (L : Nat) (xs : Nat → Int32) : jMe := (jsP (jw85 L xs) 101 11 108)
def jw87 (L : Nat) (xs : Nat → Int32) : jMe := (jnwx (jw86 L xs) 109 1 32 32)
def jw88 (L : Nat) (xs : Nat → Int32) : jMe := (jnwx (jsP (jw87 L xs) 101 12 109) 110 4 32 32)
def jw89 (L : Nat) (xs : Nat → Int32) : jMe := (jnwx (jsP (jw88 L xs) 101 13 110) 111 2 256 256)
def jw90 (L : Nat) (xs : Nat → Int32) : jMe := (jnwx (jsP (jw89 L xs) 101 26 111) 112 1 256 256)
def jw91 (L : Nat) (xs : Nat → Int32) : jMe := (jnwx (jsP (jw90 L xs) 101 27 112) 113 1 4 4)
def jw92 (L : Nat) (xs : Nat → Int32) : jMe := (jnwx (jsP (jw91 L xs) 101 28 113) 114 2 32 32)
def jw93 (L : Nat) (xs : Nat → Int32) : jMe := (jnwx (jsP (jw92 L xs) 101 32 114) 115 4 4 4)
def jw94 (L : Nat) (xs : Nat → Int32) : jMe := (jsP (jw93 L xs) 101 33 115)
def jw95 (L : Nat) (xs : Nat → Int32) : jMe := (jnwx (jw94 L xs) 116 2 4 4)
def jw96 (L : Nat) (xs : Nat → Int32) : jMe := (jnwx (jsP (jw95 L xs) 101 34 116) 117 1 4 4)
def jw97 (L : Nat) (xs : Nat → Int32) : jMe := (jnwx (jsI (jsI (jsP (jw96 L xs) 101 36 117) 101 37 (-1 : Int32)) 101 39 (-1 : Int32)) 118 2 4 4)
def jw98 (L : Nat) (xs : Nat → Int32) : jMe := (jnwx (jsP (jw97 L xs) 101 42 118) 119 2 16 16)
def jw99 (L : Nat) (xs : Nat → Int32) : jMe := (jnwx (jsP (jw98 L xs) 101 45 119) 120 2 16 16)
def jw100 (L : Nat) (xs : Nat → Int32) : jMe := (jsP (jw99 L xs) 101 46 120)
def jw101 (L : Nat) (xs : Nat → Int32) : jMe := (jnwx (jw100 L xs) 121 1 12 12)
def jw102 (L : Nat) (xs : Nat → Int32) : jMe := (jnwx (jsP (jw101 L xs) 101 48 121) 122 1 32 32)
def jw103 (L : Nat) (xs : Nat → Int32) : jMe := (jnwx (jsP (jw102 L xs) 101 50 122) 123 4 32 32)
def jw104 (L : Nat) (xs : Nat → Int32) : jMe := (jnwx (jsP (jw103 L xs) 101 51 123) 124 1 4 4)
def jw105 (L : Nat) (xs : Nat → Int32) : jMe := (jnwx (jsI (jsP (jw104 L xs) 101 52 124) 101 53 (-1 : Int32)) 125 4 4 4)
def jw106 (L : Nat) (xs : Nat → Int32) : jMe := (jnwx (jsP (jw105 L xs) 101 56 125) 126 1 4 4)
def jw107 (L : Nat) (xs : Nat → Int32) : jMe := (jsP (jw106 L xs) 101 57 126)
def jw108 (L : Nat) (xs : Nat → Int32) : jMe := (jnwx (jw107 L xs) 127 1 4 4)
def jw109 (L : Nat) (xs : Nat → Int32) : jMe := (jnwx (jsP (jw108 L xs) 101 58 127) 128 2 160 160)
def jw110 (L : Nat) (xs : Nat → Int32) : jMe := (jsP (jw109 L xs) 101 59 128)
def jw111 (L : Nat) (xs : Nat → Int32) : jMe := (jsI (jsI (jsI (jw110 L xs) 102 0 (102 : Int32)) 102 1 (105 : Int32)) 102 2 (116 : Int32))
def jw112 (L : Nat) (xs : Nat → Int32) : jMe := (jsI (jsI (jsI (jw111 L xs) 102 3 (115 : Int32)) 102 4 (32 : Int32)) 102 5 (49 : Int32))
def jw113 (L : Nat) (xs : Nat → Int32) : jMe := (jsI (jsI (jw112 L xs) 102 6 (32 : Int32)) 102 7 (59 : Int32))
def jw114 (L : Nat) (xs : Nat → Int32) : jMe := (jsI (jsI (jsI (jw113 L xs) 102 8 (32 : Int32)) 102 9 (32 : Int32)) 102 10 (32 : Int32))
def jw115 (L : Nat) (xs : Nat → Int32) : jMe := (jsI (jsI (jsI (jw114 L xs) 102 11 (32 : Int32)) 102 12 (32 : Int32)) 102 13 (32 : Int32))
def jw116 (L : Nat) (xs : Nat → Int32) : jMe := (jsI (jsI (jw115 L xs) 102 14 (32 : Int32)) 102 15 (32 : Int32))
def jw117 (L : Nat) (xs : Nat → Int32) : jMe := (jsI (jsI (jw116 L xs) 103 0 (16 : Int32)) 101 3 (1 : Int32))
set_option maxRecDepth 40000 in
theorem jst_s1 (F L : Nat) (xs : Nat → Int32) : c_X10_spell F (jw110 L xs) 101 (0 : Int32) (102 : Int32) (105 : Int32) (116 : Int32) (115 : Int32) (32 : Int32) (49 : Int32) (32 : Int32) (59 : Int32) = some (jw113 L xs) := by
  unfold c_X10_spell
  refine jgd_of (rfl) ?_
  refine jgd_of (rfl) ?_
  refine jgd_of (rfl) ?_
  refine jgd_of (rfl) ?_
  refine jgd_of (rfl) ?_
  refine jgd_of (rfl) ?_
  refine jgd_of (rfl) ?_
  refine jlet_of (e' := jw111 L xs) rfl ?_
  refine jgd_of (rfl) ?_
  refine jgd_of (rfl) ?_
  refine jgd_of (rfl) ?_
  refine jgd_of (rfl) ?_
  refine jgd_of (rfl) ?_
  refine jgd_of (rfl) ?_
  refine jgd_of (rfl) ?_
  refine jlet_of (e' := jw112 L xs) rfl ?_
  refine jgd_of (rfl) ?_
  refine jgd_of (rfl) ?_
  refine jgd_of (rfl) ?_
  refine jgd_of (rfl) ?_
  refine jgd_of (rfl) ?_
  rfl
set_option maxRecDepth 40000 in
theorem jst_s2 (F L : Nat) (xs : Nat → Int32) : c_X10_spell F (jw113 L xs) 101 (8 : Int32) (32 : Int32) (32 : Int32) (32 : Int32) (32 : Int32) (32 : Int32) (32 : Int32) (32 : Int32) (32 : Int32) = some (jw116 L xs) := by
  unfold c_X10_spell
  refine jgd_of (rfl) ?_
  refine jgd_of (rfl) ?_
  refine jgd_of (rfl) ?_
  refine jgd_of (rfl) ?_
  refine jgd_of (rfl) ?_
  refine jgd_of (rfl) ?_
  refine jgd_of (rfl) ?_
  refine jlet_of (e' := jw114 L xs) rfl ?_
  refine jgd_of (rfl) ?_
  refine jgd_of (rfl) ?_
  refine jgd_of (rfl) ?_
  refine jgd_of (rfl) ?_
  refine jgd_of (rfl) ?_
  refine jgd_of (rfl) ?_
  refine jgd_of (rfl) ?_
  refine jlet_of (e' := jw115 L xs) rfl ?_
  refine jgd_of (rfl) ?_
  refine jgd_of (rfl) ?_
  refine jgd_of (rfl) ?_
  refine jgd_of (rfl) ?_
  refine jgd_of (rfl) ?_
  rfl
set_option maxRecDepth 40000 in
theorem jst_10 (F L : Nat) (xs : Nat → Int32) : c_X10_init F (jw78 L xs) 101 = some (jw117 L xs) := by
  unfold c_X10_init
  refine jgd_of (by decide) ?_
  refine jgd_of (by decide) ?_
  refine jlet_of (e' := jw79 L xs) rfl ?_
  refine jgd_of (rfl) ?_
  refine jgd_of (by decide) ?_
  refine jlet_of (e' := jw80 L xs) rfl ?_
  refine jgd_of (rfl) ?_
  refine jgd_of (by decide) ?_
  refine jlet_of (e' := jw81 L xs) rfl ?_
  refine jgd_of (rfl) ?_
  refine jgd_of (by decide) ?_
  refine jlet_of (e' := jw82 L xs) rfl ?_
  refine jgd_of (rfl) ?_
  refine jgd_of (by decide) ?_
  refine jlet_of (e' := jw83 L xs) rfl ?_
  refine jgd_of (rfl) ?_
  refine jgd_of (by decide) ?_
  refine jlet_of (e' := jw84 L xs) rfl ?_
  refine jgd_of (rfl) ?_
  refine jgd_of (by decide) ?_
  refine jlet_of (e' := jw85 L xs) rfl ?_
  refine jgd_of (rfl) ?_
  refine jlet_of (e' := jw86 L xs) rfl ?_
  refine jgd_of (by decide) ?_
  refine jlet_of (e' := jw87 L xs) rfl ?_
  refine jgd_of (rfl) ?_
  refine jgd_of (by decide) ?_
  refine jlet_of (e' := jw88 L xs) rfl ?_
  refine jgd_of (rfl) ?_
  refine jgd_of (by decide) ?_
  refine jlet_of (e' := jw89 L xs) rfl ?_
  refine jgd_of (rfl) ?_
  refine jgd_of (by decide) ?_
  refine jlet_of (e' := jw90 L xs) rfl ?_
  refine jgd_of (rfl) ?_
  refine jgd_of (by decide) ?_
  refine jlet_of (e' := jw91 L xs) rfl ?_
  refine jgd_of (rfl) ?_
  refine jgd_of (by decide) ?_
  refine jlet_of (e' := jw92 L xs) rfl ?_
  refine jgd_of (rfl) ?_
  refine jgd_of (by decide) ?_
  refine jlet_of (e' := jw93 L xs) rfl ?_
  refine jgd_of (rfl) ?_
  refine jlet_of (e' := jw94 L xs) rfl ?_
  refine jgd_of (by decide) ?_
  refine jlet_of (e' := jw95 L xs) rfl ?_
  refine jgd_of (rfl) ?_
  refine jgd_of (by decide) ?_
  refine jlet_of (e' := jw96 L xs) rfl ?_
  refine jgd_of (rfl) ?_
  refine jgd_of (by decide) ?_
  refine jlet_of (e' := jw97 L xs) rfl ?_
  refine jgd_of (rfl) ?_
  refine jgd_of (by decide) ?_
  refine jlet_of (e' := jw98 L xs) rfl ?_
  refine jgd_of (rfl) ?_
  refine jgd_of (by decide) ?_
  refine jlet_of (e' := jw99 L xs) rfl ?_
  refine jgd_of (rfl) ?_
  refine jlet_of (e' := jw100 L xs) rfl ?_
  refine jgd_of (by decide) ?_
  refine jlet_of (e' := jw101 L xs) rfl ?_
  refine jgd_of (rfl) ?_
  refine jgd_of (by decide) ?_
  refine jlet_of (e' := jw102 L xs) rfl ?_
  refine jgd_of (rfl) ?_
  refine jgd_of (by decide) ?_
  refine jlet_of (e' := jw103 L xs) rfl ?_
  refine jgd_of (rfl) ?_
  refine jgd_of (by decide) ?_
  refine jlet_of (e' := jw104 L xs) rfl ?_
  refine jgd_of (rfl) ?_
  refine jgd_of (by decide) ?_
  refine jlet_of (e' := jw105 L xs) rfl ?_
  refine jgd_of (rfl) ?_
  refine jgd_of (by decide) ?_
  refine jlet_of (e' := jw106 L xs) rfl ?_
  refine jgd_of (rfl) ?_
  refine jlet_of (e' := jw107 L xs) rfl ?_
  refine jgd_of (by decide) ?_
  refine jlet_of (e' := jw108 L xs) rfl ?_
  refine jgd_of (rfl) ?_
  refine jgd_of (by decide) ?_
  refine jlet_of (e' := jw109 L xs) rfl ?_
  refine jgd_of (rfl) ?_
  refine jb_of (jst_s1 F L xs) ?_
  refine jgd_of (rfl) ?_
  refine jb_of (jst_s2 F L xs) ?_
  refine jgd_of (rfl) ?_
  refine jgd_of (rfl) ?_
  refine jgd_of (rfl) ?_
  rfl
