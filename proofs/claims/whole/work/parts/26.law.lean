/-! the law -/
abbrev jm_L_law : jM := (RL, yL_law, cL_law, 4, some .boolean)
theorem jpl_RL : plainName RL = true := by decide +kernel
def c_L_law_l18_b (F : Nat) (B : jMe → Nat → Nat → Nat → Int32 → Option ((Int32 × jMe) ⊕ jMe)) (m : jMe) (y0 : Nat) (y1 : Nat) (y2 : Nat) (y3 : Int32) : Option ((Int32 × jMe) ⊕ jMe) :=
  jgd (jK m y0 = 8) <| (if ((Int32.ofNat (jZ m y0)) - (6 : Int32)) < y3 then some (.inr (m)) else jgd (jin y3 (jZ m y0) = true) <| (if ((jI m y0 y3.toNatClampNeg) &&& (63 : Int32)) = (0 : Int32) then jgd (jin (y3 + (1 : Int32)) (jZ m y0) = true) <| jgd (jin (y3 + (2 : Int32)) (jZ m y0) = true) <| jgd (jK m y1 = 41) <| jb (c_X9_relation F m y1 (jI m y0 (y3 + (1 : Int32)).toNatClampNeg) (jI m y0 (y3 + (2 : Int32)).toNatClampNeg)) fun t15 => jgd (jK t15.2 y0 = 8) <| jgd (jin (y3 + (1 : Int32)) (jZ t15.2 y0) = true) <| jgd (jin (y3 + (2 : Int32)) (jZ t15.2 y0) = true) <| jgd (jK t15.2 y2 = 42) <| jb (c_X10_relation F t15.2 y2 (jI t15.2 y0 (y3 + (1 : Int32)).toNatClampNeg) (jI t15.2 y0 (y3 + (2 : Int32)).toNatClampNeg)) fun t21 => (if t15.1 = t21.1 then B t21.2 y0 y1 y2 (y3 + (6 : Int32)) else some (.inl ((0 : Int32), t21.2))) else if ((jI m y0 y3.toNatClampNeg) &&& (63 : Int32)) = (1 : Int32) then jgd (jin (y3 + (1 : Int32)) (jZ m y0) = true) <| jgd (jin (y3 + (2 : Int32)) (jZ m y0) = true) <| jgd (jin (y3 + (3 : Int32)) (jZ m y0) = true) <| jgd (jin (y3 + (4 : Int32)) (jZ m y0) = true) <| jgd (jin (y3 + (5 : Int32)) (jZ m y0) = true) <| jgd (jK m y1 = 41) <| jb (c_X9_row F m y1 (jI m y0 (y3 + (1 : Int32)).toNatClampNeg) (jI m y0 (y3 + (2 : Int32)).toNatClampNeg) (jI m y0 (y3 + (3 : Int32)).toNatClampNeg) (jI m y0 (y3 + (4 : Int32)).toNatClampNeg) (jI m y0 (y3 + (5 : Int32)).toNatClampNeg)) fun t31 => jgd (jK t31.2 y0 = 8) <| jgd (jin (y3 + (1 : Int32)) (jZ t31.2 y0) = true) <| jgd (jin (y3 + (2 : Int32)) (jZ t31.2 y0) = true) <| jgd (jin (y3 + (3 : Int32)) (jZ t31.2 y0) = true) <| jgd (jin (y3 + (4 : Int32)) (jZ t31.2 y0) = true) <| jgd (jin (y3 + (5 : Int32)) (jZ t31.2 y0) = true) <| jgd (jK t31.2 y2 = 42) <| jb (c_X10_row F t31.2 y2 (jI t31.2 y0 (y3 + (1 : Int32)).toNatClampNeg) (jI t31.2 y0 (y3 + (2 : Int32)).toNatClampNeg) (jI t31.2 y0 (y3 + (3 : Int32)).toNatClampNeg) (jI t31.2 y0 (y3 + (4 : Int32)).toNatClampNeg) (jI t31.2 y0 (y3 + (5 : Int32)).toNatClampNeg)) fun t40 => (if t31.1 = t40.1 then B t40.2 y0 y1 y2 (y3 + (6 : Int32)) else some (.inl ((0 : Int32), t40.2))) else if ((jI m y0 y3.toNatClampNeg) &&& (63 : Int32)) = (2 : Int32) then jgd (jin (y3 + (1 : Int32)) (jZ m y0) = true) <| jgd (jin (y3 + (2 : Int32)) (jZ m y0) = true) <| jgd (jK m y1 = 41) <| jb (c_X9_remove F m y1 (jI m y0 (y3 + (1 : Int32)).toNatClampNeg) (jI m y0 (y3 + (2 : Int32)).toNatClampNeg)) fun t47 => jgd (jK t47.2 y0 = 8) <| jgd (jin (y3 + (1 : Int32)) (jZ t47.2 y0) = true) <| jgd (jin (y3 + (2 : Int32)) (jZ t47.2 y0) = true) <| jgd (jK t47.2 y2 = 42) <| jb (c_X10_remove F t47.2 y2 (jI t47.2 y0 (y3 + (1 : Int32)).toNatClampNeg) (jI t47.2 y0 (y3 + (2 : Int32)).toNatClampNeg)) fun t53 => (if t47.1 = t53.1 then B t53.2 y0 y1 y2 (y3 + (6 : Int32)) else some (.inl ((0 : Int32), t53.2))) else if ((jI m y0 y3.toNatClampNeg) &&& (63 : Int32)) = (3 : Int32) then jgd (jin (y3 + (1 : Int32)) (jZ m y0) = true) <| jgd (jin (y3 + (2 : Int32)) (jZ m y0) = true) <| jgd (jK m y1 = 41) <| jb (c_X9_restore F m y1 (jI m y0 (y3 + (1 : Int32)).toNatClampNeg) (jI m y0 (y3 + (2 : Int32)).toNatClampNeg)) fun t60 => jgd (jK t60.2 y0 = 8) <| jgd (jin (y3 + (1 : Int32)) (jZ t60.2 y0) = true) <| jgd (jin (y3 + (2 : Int32)) (jZ t60.2 y0) = true) <| jgd (jK t60.2 y2 = 42) <| jb (c_X10_restore F t60.2 y2 (jI t60.2 y0 (y3 + (1 : Int32)).toNatClampNeg) (jI t60.2 y0 (y3 + (2 : Int32)).toNatClampNeg)) fun t66 => (if t60.1 = t66.1 then B t66.2 y0 y1 y2 (y3 + (6 : Int32)) else some (.inl ((0 : Int32), t66.2))) else if ((jI m y0 y3.toNatClampNeg) &&& (63 : Int32)) = (4 : Int32) then jgd (jin (y3 + (1 : Int32)) (jZ m y0) = true) <| jgd (jin (y3 + (2 : Int32)) (jZ m y0) = true) <| jgd (jin (y3 + (3 : Int32)) (jZ m y0) = true) <| jgd (jK m y1 = 41) <| jb (c_X9_copies F m y1 (jI m y0 (y3 + (1 : Int32)).toNatClampNeg) (jI m y0 (y3 + (2 : Int32)).toNatClampNeg) (jI m y0 (y3 + (3 : Int32)).toNatClampNeg)) fun t74 => jgd (jK t74.2 y0 = 8) <| jgd (jin (y3 + (1 : Int32)) (jZ t74.2 y0) = true) <| jgd (jin (y3 + (2 : Int32)) (jZ t74.2 y0) = true) <| jgd (jin (y3 + (3 : Int32)) (jZ t74.2 y0) = true) <| jgd (jK t74.2 y2 = 42) <| jb (c_X10_copies F t74.2 y2 (jI t74.2 y0 (y3 + (1 : Int32)).toNatClampNeg) (jI t74.2 y0 (y3 + (2 : Int32)).toNatClampNeg) (jI t74.2 y0 (y3 + (3 : Int32)).toNatClampNeg)) fun t81 => (if t74.1 = t81.1 then B t81.2 y0 y1 y2 (y3 + (6 : Int32)) else some (.inl ((0 : Int32), t81.2))) else if ((jI m y0 y3.toNatClampNeg) &&& (63 : Int32)) = (5 : Int32) then jgd (jin (y3 + (1 : Int32)) (jZ m y0) = true) <| jgd (jin (y3 + (2 : Int32)) (jZ m y0) = true) <| jgd (jin (y3 + (3 : Int32)) (jZ m y0) = true) <| jgd (jK m y1 = 41) <| jb (c_X9_told F m y1 (jI m y0 (y3 + (1 : Int32)).toNatClampNeg) (jI m y0 (y3 + (2 : Int32)).toNatClampNeg) (jI m y0 (y3 + (3 : Int32)).toNatClampNeg)) fun t89 => jgd (jK t89.2 y0 = 8) <| jgd (jin (y3 + (1 : Int32)) (jZ t89.2 y0) = true) <| jgd (jin (y3 + (2 : Int32)) (jZ t89.2 y0) = true) <| jgd (jin (y3 + (3 : Int32)) (jZ t89.2 y0) = true) <| jgd (jK t89.2 y2 = 42) <| jb (c_X10_told F t89.2 y2 (jI t89.2 y0 (y3 + (1 : Int32)).toNatClampNeg) (jI t89.2 y0 (y3 + (2 : Int32)).toNatClampNeg) (jI t89.2 y0 (y3 + (3 : Int32)).toNatClampNeg)) fun t96 => (if t89.1 = t96.1 then B t96.2 y0 y1 y2 (y3 + (6 : Int32)) else some (.inl ((0 : Int32), t96.2))) else if ((jI m y0 y3.toNatClampNeg) &&& (63 : Int32)) = (6 : Int32) then jgd (jin (y3 + (1 : Int32)) (jZ m y0) = true) <| jgd (jin (y3 + (2 : Int32)) (jZ m y0) = true) <| jgd (jK m y1 = 41) <| jb (c_X9_worth F m y1 (jI m y0 (y3 + (1 : Int32)).toNatClampNeg) (jI m y0 (y3 + (2 : Int32)).toNatClampNeg)) fun t103 => jgd (jin (y3 + (1 : Int32)) (jZ m y0) = true) <| jgd (jin (y3 + (2 : Int32)) (jZ m y0) = true) <| jgd (jK m y2 = 42) <| jb (c_X10_worth F m y2 (jI m y0 (y3 + (1 : Int32)).toNatClampNeg) (jI m y0 (y3 + (2 : Int32)).toNatClampNeg)) fun t108 => (if (lg_cmp t103 t108) = 0 then B m y0 y1 y2 (y3 + (6 : Int32)) else some (.inl ((0 : Int32), m))) else if ((jI m y0 y3.toNatClampNeg) &&& (63 : Int32)) = (7 : Int32) then jgd (jin (y3 + (1 : Int32)) (jZ m y0) = true) <| jgd (jin (y3 + (2 : Int32)) (jZ m y0) = true) <| jgd (jK m y1 = 41) <| jb (c_X9_about F m y1 (jI m y0 (y3 + (1 : Int32)).toNatClampNeg) (jI m y0 (y3 + (2 : Int32)).toNatClampNeg)) fun t115 => jgd (jK t115.2 y0 = 8) <| jgd (jin (y3 + (1 : Int32)) (jZ t115.2 y0) = true) <| jgd (jin (y3 + (2 : Int32)) (jZ t115.2 y0) = true) <| jgd (jK t115.2 y2 = 42) <| jb (c_X10_about F t115.2 y2 (jI t115.2 y0 (y3 + (1 : Int32)).toNatClampNeg) (jI t115.2 y0 (y3 + (2 : Int32)).toNatClampNeg)) fun t121 => (if t115.1 = t121.1 then B t121.2 y0 y1 y2 (y3 + (6 : Int32)) else some (.inl ((0 : Int32), t121.2))) else if ((jI m y0 y3.toNatClampNeg) &&& (63 : Int32)) = (8 : Int32) then jgd (jin (y3 + (1 : Int32)) (jZ m y0) = true) <| jgd (jK m y1 = 41) <| jb (c_X9_query F m y1 (jI m y0 (y3 + (1 : Int32)).toNatClampNeg)) fun t127 => jgd (jK t127.2 y0 = 8) <| jgd (jin (y3 + (1 : Int32)) (jZ t127.2 y0) = true) <| jgd (jK t127.2 y2 = 42) <| jb (c_X10_query F t127.2 y2 (jI t127.2 y0 (y3 + (1 : Int32)).toNatClampNeg)) fun t132 => (if t127.1 = t132.1 then B t132.2 y0 y1 y2 (y3 + (6 : Int32)) else some (.inl ((0 : Int32), t132.2))) else if ((jI m y0 y3.toNatClampNeg) &&& (63 : Int32)) = (9 : Int32) then jgd (jin (y3 + (1 : Int32)) (jZ m y0) = true) <| jgd (jK m y1 = 41) <| jb (c_X9_shape F m y1 (jI m y0 (y3 + (1 : Int32)).toNatClampNeg)) fun t138 => jgd (jK t138.2 y0 = 8) <| jgd (jin (y3 + (1 : Int32)) (jZ t138.2 y0) = true) <| jgd (jK t138.2 y2 = 42) <| jb (c_X10_shape F t138.2 y2 (jI t138.2 y0 (y3 + (1 : Int32)).toNatClampNeg)) fun t143 => (if t138.1 = t143.1 then B t143.2 y0 y1 y2 (y3 + (6 : Int32)) else some (.inl ((0 : Int32), t143.2))) else if ((jI m y0 y3.toNatClampNeg) &&& (63 : Int32)) = (10 : Int32) then jgd (jin (y3 + (1 : Int32)) (jZ m y0) = true) <| jgd (jK m y1 = 41) <| jb (c_X9_feed F m y1 (jI m y0 (y3 + (1 : Int32)).toNatClampNeg)) fun t149 => jgd (jK t149.2 y0 = 8) <| jgd (jin (y3 + (1 : Int32)) (jZ t149.2 y0) = true) <| jgd (jK t149.2 y2 = 42) <| jb (c_X10_feed F t149.2 y2 (jI t149.2 y0 (y3 + (1 : Int32)).toNatClampNeg)) fun t154 => (if t149.1 = t154.1 then B t154.2 y0 y1 y2 (y3 + (6 : Int32)) else some (.inl ((0 : Int32), t154.2))) else if ((jI m y0 y3.toNatClampNeg) &&& (63 : Int32)) = (11 : Int32) then jgd (jK m y1 = 41) <| jb (c_X9_text F m y1) fun t159 => jgd (jK t159.2 y2 = 42) <| jb (c_X10_text F t159.2 y2) fun t162 => (if t159.1 = t162.1 then B t162.2 y0 y1 y2 (y3 + (6 : Int32)) else some (.inl ((0 : Int32), t162.2))) else if ((jI m y0 y3.toNatClampNeg) &&& (63 : Int32)) = (12 : Int32) then jgd (jin (y3 + (1 : Int32)) (jZ m y0) = true) <| jgd (jK m y1 = 41) <| jb (c_X9_force F m y1 (jI m y0 (y3 + (1 : Int32)).toNatClampNeg)) fun t168 => jgd (jK t168.2 y0 = 8) <| jgd (jin (y3 + (1 : Int32)) (jZ t168.2 y0) = true) <| jgd (jK t168.2 y2 = 42) <| jb (c_X10_force F t168.2 y2 (jI t168.2 y0 (y3 + (1 : Int32)).toNatClampNeg)) fun t173 => (if t168.1 = t173.1 then B t173.2 y0 y1 y2 (y3 + (6 : Int32)) else some (.inl ((0 : Int32), t173.2))) else if ((jI m y0 y3.toNatClampNeg) &&& (63 : Int32)) = (13 : Int32) then jgd (jin (y3 + (1 : Int32)) (jZ m y0) = true) <| jgd (jin (y3 + (2 : Int32)) (jZ m y0) = true) <| jgd (jK m y1 = 41) <| jb (c_X9_weight F m y1 (jI m y0 (y3 + (1 : Int32)).toNatClampNeg) (jI m y0 (y3 + (2 : Int32)).toNatClampNeg)) fun t180 => jgd (jK t180.2 y0 = 8) <| jgd (jin (y3 + (1 : Int32)) (jZ t180.2 y0) = true) <| jgd (jin (y3 + (2 : Int32)) (jZ t180.2 y0) = true) <| jgd (jK t180.2 y2 = 42) <| jb (c_X10_weight F t180.2 y2 (jI t180.2 y0 (y3 + (1 : Int32)).toNatClampNeg) (jI t180.2 y0 (y3 + (2 : Int32)).toNatClampNeg)) fun t186 => (if (lg_cmp t180.1 t186.1) = 0 then B t186.2 y0 y1 y2 (y3 + (6 : Int32)) else some (.inl ((0 : Int32), t186.2))) else if ((jI m y0 y3.toNatClampNeg) &&& (63 : Int32)) = (14 : Int32) then jgd (jin (y3 + (1 : Int32)) (jZ m y0) = true) <| jgd (jK m y1 = 41) <| jb (c_X9_bound F m y1 (jI m y0 (y3 + (1 : Int32)).toNatClampNeg)) fun t192 => jgd (jK t192.2 y0 = 8) <| jgd (jin (y3 + (1 : Int32)) (jZ t192.2 y0) = true) <| jgd (jK t192.2 y2 = 42) <| jb (c_X10_bound F t192.2 y2 (jI t192.2 y0 (y3 + (1 : Int32)).toNatClampNeg)) fun t197 => (if (lg_cmp t192.1 t197.1) = 0 then B t197.2 y0 y1 y2 (y3 + (6 : Int32)) else some (.inl ((0 : Int32), t197.2))) else if ((jI m y0 y3.toNatClampNeg) &&& (63 : Int32)) = (15 : Int32) then jgd (jK m y1 = 41) <| jb (c_X9_space F m y1) fun t202 => jgd (jK t202.2 y2 = 42) <| jb (c_X10_space F t202.2 y2) fun t205 => (if (lg_cmp t202.1 t205.1) = 0 then B t205.2 y0 y1 y2 (y3 + (6 : Int32)) else some (.inl ((0 : Int32), t205.2))) else if ((jI m y0 y3.toNatClampNeg) &&& (63 : Int32)) = (16 : Int32) then jgd (jK m y1 = 41) <| jb (c_X9_answers F m y1) fun t210 => jgd (jK t210.2 y2 = 42) <| jb (c_X10_answers F t210.2 y2) fun t213 => (if (lg_cmp t210.1 t213.1) = 0 then B t213.2 y0 y1 y2 (y3 + (6 : Int32)) else some (.inl ((0 : Int32), t213.2))) else if ((jI m y0 y3.toNatClampNeg) &&& (63 : Int32)) = (17 : Int32) then jgd (jin (y3 + (1 : Int32)) (jZ m y0) = true) <| jgd (jin (y3 + (2 : Int32)) (jZ m y0) = true) <| jgd (jin (y3 + (3 : Int32)) (jZ m y0) = true) <| jgd (jK m y1 = 41) <| jb (c_X9_at F m y1 ((jlshl (Int32.toInt64 (jI m y0 (y3 + (1 : Int32)).toNatClampNeg)) (32 : Int32)) ||| ((Int32.toInt64 (jI m y0 (y3 + (2 : Int32)).toNatClampNeg)) &&& (4294967295 : Int64))) (jI m y0 (y3 + (3 : Int32)).toNatClampNeg)) fun t221 => jgd (jK t221.2 y0 = 8) <| jgd (jin (y3 + (1 : Int32)) (jZ t221.2 y0) = true) <| jgd (jin (y3 + (2 : Int32)) (jZ t221.2 y0) = true) <| jgd (jin (y3 + (3 : Int32)) (jZ t221.2 y0) = true) <| jgd (jK t221.2 y2 = 42) <| jb (c_X10_at F t221.2 y2 ((jlshl (Int32.toInt64 (jI t221.2 y0 (y3 + (1 : Int32)).toNatClampNeg)) (32 : Int32)) ||| ((Int32.toInt64 (jI t221.2 y0 (y3 + (2 : Int32)).toNatClampNeg)) &&& (4294967295 : Int64))) (jI t221.2 y0 (y3 + (3 : Int32)).toNatClampNeg)) fun t228 => (if t221.1 = t228.1 then B t228.2 y0 y1 y2 (y3 + (6 : Int32)) else some (.inl ((0 : Int32), t228.2))) else if ((jI m y0 y3.toNatClampNeg) &&& (63 : Int32)) = (18 : Int32) then jgd (jin (y3 + (1 : Int32)) (jZ m y0) = true) <| jgd (jK m y1 = 41) <| jb (c_X9_find F m y1 (jI m y0 (y3 + (1 : Int32)).toNatClampNeg)) fun t234 => jgd (jK t234.2 y0 = 8) <| jgd (jin (y3 + (1 : Int32)) (jZ t234.2 y0) = true) <| jgd (jK t234.2 y2 = 42) <| jb (c_X10_find F t234.2 y2 (jI t234.2 y0 (y3 + (1 : Int32)).toNatClampNeg)) fun t239 => (if (lg_cmp t234.1 t239.1) = 0 then B t239.2 y0 y1 y2 (y3 + (6 : Int32)) else some (.inl ((0 : Int32), t239.2))) else if ((jI m y0 y3.toNatClampNeg) &&& (63 : Int32)) = (19 : Int32) then jgd (jin (y3 + (1 : Int32)) (jZ m y0) = true) <| jgd (jin (y3 + (2 : Int32)) (jZ m y0) = true) <| jgd (jK m y1 = 41) <| jb (c_X9_draw F m y1 (jI m y0 (y3 + (1 : Int32)).toNatClampNeg) (jI m y0 (y3 + (2 : Int32)).toNatClampNeg)) fun t246 => jgd (jK t246.2 y0 = 8) <| jgd (jin (y3 + (1 : Int32)) (jZ t246.2 y0) = true) <| jgd (jin (y3 + (2 : Int32)) (jZ t246.2 y0) = true) <| jgd (jK t246.2 y2 = 42) <| jb (c_X10_draw F t246.2 y2 (jI t246.2 y0 (y3 + (1 : Int32)).toNatClampNeg) (jI t246.2 y0 (y3 + (2 : Int32)).toNatClampNeg)) fun t252 => (if t246.1 = t252.1 then B t252.2 y0 y1 y2 (y3 + (6 : Int32)) else some (.inl ((0 : Int32), t252.2))) else if ((jI m y0 y3.toNatClampNeg) &&& (63 : Int32)) = (20 : Int32) then jgd (jin (y3 + (1 : Int32)) (jZ m y0) = true) <| jgd (jin (y3 + (2 : Int32)) (jZ m y0) = true) <| jgd (jin (y3 + (3 : Int32)) (jZ m y0) = true) <| jgd (jK m y1 = 41) <| jb (c_X9_shuffle F m y1 (jI m y0 (y3 + (1 : Int32)).toNatClampNeg) (jI m y0 (y3 + (2 : Int32)).toNatClampNeg) (jI m y0 (y3 + (3 : Int32)).toNatClampNeg)) fun t260 => jgd (jK t260.2 y0 = 8) <| jgd (jin (y3 + (1 : Int32)) (jZ t260.2 y0) = true) <| jgd (jin (y3 + (2 : Int32)) (jZ t260.2 y0) = true) <| jgd (jin (y3 + (3 : Int32)) (jZ t260.2 y0) = true) <| jgd (jK t260.2 y2 = 42) <| jb (c_X10_shuffle F t260.2 y2 (jI t260.2 y0 (y3 + (1 : Int32)).toNatClampNeg) (jI t260.2 y0 (y3 + (2 : Int32)).toNatClampNeg) (jI t260.2 y0 (y3 + (3 : Int32)).toNatClampNeg)) fun t267 => (if (lg_cmp t260.1 t267.1) = 0 then B t267.2 y0 y1 y2 (y3 + (6 : Int32)) else some (.inl ((0 : Int32), t267.2))) else if ((jI m y0 y3.toNatClampNeg) &&& (63 : Int32)) = (21 : Int32) then jgd (jin (y3 + (1 : Int32)) (jZ m y0) = true) <| jgd (jin (y3 + (2 : Int32)) (jZ m y0) = true) <| jgd (jin (y3 + (3 : Int32)) (jZ m y0) = true) <| jgd (jK m y1 = 41) <| jb (c_X9_odds F m y1 (jI m y0 (y3 + (1 : Int32)).toNatClampNeg) (jI m y0 (y3 + (2 : Int32)).toNatClampNeg) (jI m y0 (y3 + (3 : Int32)).toNatClampNeg)) fun t275 => jgd (jK t275.2 y0 = 8) <| jgd (jin (y3 + (1 : Int32)) (jZ t275.2 y0) = true) <| jgd (jin (y3 + (2 : Int32)) (jZ t275.2 y0) = true) <| jgd (jin (y3 + (3 : Int32)) (jZ t275.2 y0) = true) <| jgd (jK t275.2 y2 = 42) <| jb (c_X10_odds F t275.2 y2 (jI t275.2 y0 (y3 + (1 : Int32)).toNatClampNeg) (jI t275.2 y0 (y3 + (2 : Int32)).toNatClampNeg) (jI t275.2 y0 (y3 + (3 : Int32)).toNatClampNeg)) fun t282 => (if (lg_cmp t275.1 t282.1) = 0 then B t282.2 y0 y1 y2 (y3 + (6 : Int32)) else some (.inl ((0 : Int32), t282.2))) else if ((jI m y0 y3.toNatClampNeg) &&& (63 : Int32)) = (22 : Int32) then jgd (jin (y3 + (1 : Int32)) (jZ m y0) = true) <| jgd (jin (y3 + (2 : Int32)) (jZ m y0) = true) <| jgd (jK m y1 = 41) <| jb (c_X9_values F m y1 (jI m y0 (y3 + (1 : Int32)).toNatClampNeg) (jI m y0 (y3 + (2 : Int32)).toNatClampNeg)) fun t289 => jgd (jK t289.2 y0 = 8) <| jgd (jin (y3 + (1 : Int32)) (jZ t289.2 y0) = true) <| jgd (jin (y3 + (2 : Int32)) (jZ t289.2 y0) = true) <| jgd (jK t289.2 y2 = 42) <| jb (c_X10_values F t289.2 y2 (jI t289.2 y0 (y3 + (1 : Int32)).toNatClampNeg) (jI t289.2 y0 (y3 + (2 : Int32)).toNatClampNeg)) fun t295 => (if (lg_cmp t289.1 t295.1) = 0 then B t295.2 y0 y1 y2 (y3 + (6 : Int32)) else some (.inl ((0 : Int32), t295.2))) else if ((jI m y0 y3.toNatClampNeg) &&& (63 : Int32)) = (23 : Int32) then jgd (jin (y3 + (1 : Int32)) (jZ m y0) = true) <| jgd (jK m y1 = 41) <| jb (c_X9_likeliest F m y1 (jI m y0 (y3 + (1 : Int32)).toNatClampNeg)) fun t301 => jgd (jK t301.2 y0 = 8) <| jgd (jin (y3 + (1 : Int32)) (jZ t301.2 y0) = true) <| jgd (jK t301.2 y2 = 42) <| jb (c_X10_likeliest F t301.2 y2 (jI t301.2 y0 (y3 + (1 : Int32)).toNatClampNeg)) fun t306 => (if t301.1 = t306.1 then B t306.2 y0 y1 y2 (y3 + (6 : Int32)) else some (.inl ((0 : Int32), t306.2))) else if ((jI m y0 y3.toNatClampNeg) &&& (63 : Int32)) = (24 : Int32) then jgd (jin (y3 + (1 : Int32)) (jZ m y0) = true) <| jgd (jK m y1 = 41) <| jb (c_X9_dangling F m y1 (jI m y0 (y3 + (1 : Int32)).toNatClampNeg)) fun t312 => jgd (jK t312.2 y0 = 8) <| jgd (jin (y3 + (1 : Int32)) (jZ t312.2 y0) = true) <| jgd (jK t312.2 y2 = 42) <| jb (c_X10_dangling F t312.2 y2 (jI t312.2 y0 (y3 + (1 : Int32)).toNatClampNeg)) fun t317 => (if t312.1 = t317.1 then B t317.2 y0 y1 y2 (y3 + (6 : Int32)) else some (.inl ((0 : Int32), t317.2))) else if ((jI m y0 y3.toNatClampNeg) &&& (63 : Int32)) = (25 : Int32) then jgd (jin (y3 + (1 : Int32)) (jZ m y0) = true) <| jgd (jin (y3 + (2 : Int32)) (jZ m y0) = true) <| jgd (jK m y1 = 41) <| jb (c_X9_without F m y1 (jI m y0 (y3 + (1 : Int32)).toNatClampNeg) (jI m y0 (y3 + (2 : Int32)).toNatClampNeg)) fun t324 => jgd (jK t324.2 y0 = 8) <| jgd (jin (y3 + (1 : Int32)) (jZ t324.2 y0) = true) <| jgd (jin (y3 + (2 : Int32)) (jZ t324.2 y0) = true) <| jgd (jK t324.2 y2 = 42) <| jb (c_X10_without F t324.2 y2 (jI t324.2 y0 (y3 + (1 : Int32)).toNatClampNeg) (jI t324.2 y0 (y3 + (2 : Int32)).toNatClampNeg)) fun t330 => (if (lg_cmp t324.1 t330.1) = 0 then B t330.2 y0 y1 y2 (y3 + (6 : Int32)) else some (.inl ((0 : Int32), t330.2))) else if ((jI m y0 y3.toNatClampNeg) &&& (63 : Int32)) = (26 : Int32) then jgd (jin (y3 + (1 : Int32)) (jZ m y0) = true) <| jgd (jK m y1 = 41) <| jb (c_X9_key F m y1 (jI m y0 (y3 + (1 : Int32)).toNatClampNeg)) fun t336 => jgd (jK t336.2 y0 = 8) <| jgd (jin (y3 + (1 : Int32)) (jZ t336.2 y0) = true) <| jgd (jK t336.2 y2 = 42) <| jb (c_X10_key F t336.2 y2 (jI t336.2 y0 (y3 + (1 : Int32)).toNatClampNeg)) fun t341 => (if (lg_cmp t336.1 t341.1) = 0 then B t341.2 y0 y1 y2 (y3 + (6 : Int32)) else some (.inl ((0 : Int32), t341.2))) else if ((jI m y0 y3.toNatClampNeg) &&& (63 : Int32)) = (27 : Int32) then jgd (jin (y3 + (1 : Int32)) (jZ m y0) = true) <| jgd (jin (y3 + (2 : Int32)) (jZ m y0) = true) <| jgd (jin (y3 + (3 : Int32)) (jZ m y0) = true) <| jgd (jK m y1 = 41) <| jb (c_X9_strip F m y1 (jI m y0 (y3 + (1 : Int32)).toNatClampNeg) ((jlshl (Int32.toInt64 (jI m y0 (y3 + (2 : Int32)).toNatClampNeg)) (32 : Int32)) ||| ((Int32.toInt64 (jI m y0 (y3 + (3 : Int32)).toNatClampNeg)) &&& (4294967295 : Int64)))) fun t349 => jgd (jK t349.2 y0 = 8) <| jgd (jin (y3 + (1 : Int32)) (jZ t349.2 y0) = true) <| jgd (jin (y3 + (2 : Int32)) (jZ t349.2 y0) = true) <| jgd (jin (y3 + (3 : Int32)) (jZ t349.2 y0) = true) <| jgd (jK t349.2 y2 = 42) <| jb (c_X10_strip F t349.2 y2 (jI t349.2 y0 (y3 + (1 : Int32)).toNatClampNeg) ((jlshl (Int32.toInt64 (jI t349.2 y0 (y3 + (2 : Int32)).toNatClampNeg)) (32 : Int32)) ||| ((Int32.toInt64 (jI t349.2 y0 (y3 + (3 : Int32)).toNatClampNeg)) &&& (4294967295 : Int64)))) fun t356 => (if t349.1 = t356.1 then B t356.2 y0 y1 y2 (y3 + (6 : Int32)) else some (.inl ((0 : Int32), t356.2))) else if ((jI m y0 y3.toNatClampNeg) &&& (63 : Int32)) = (28 : Int32) then jgd (jin (y3 + (1 : Int32)) (jZ m y0) = true) <| jgd (jK m y1 = 41) <| jb (c_X9_slate F m y1 (jI m y0 (y3 + (1 : Int32)).toNatClampNeg)) fun t362 => jgd (jin (y3 + (1 : Int32)) (jZ m y0) = true) <| jgd (jK m y2 = 42) <| jb (c_X10_slate F m y2 (jI m y0 (y3 + (1 : Int32)).toNatClampNeg)) fun t366 => (if t362 = t366 then B m y0 y1 y2 (y3 + (6 : Int32)) else some (.inl ((0 : Int32), m))) else if ((jI m y0 y3.toNatClampNeg) &&& (63 : Int32)) = (29 : Int32) then jgd (jin (y3 + (1 : Int32)) (jZ m y0) = true) <| jgd (jin (y3 + (2 : Int32)) (jZ m y0) = true) <| jgd (jin (y3 + (3 : Int32)) (jZ m y0) = true) <| jgd (jin (y3 + (4 : Int32)) (jZ m y0) = true) <| jgd (jin (y3 + (5 : Int32)) (jZ m y0) = true) <| jgd (jK m y1 = 41) <| jb (c_X9_lot F m y1 (jI m y0 (y3 + (1 : Int32)).toNatClampNeg) (jI m y0 (y3 + (2 : Int32)).toNatClampNeg) (jI m y0 (y3 + (3 : Int32)).toNatClampNeg) (jI m y0 (y3 + (4 : Int32)).toNatClampNeg) (jI m y0 (y3 + (5 : Int32)).toNatClampNeg)) fun t376 => jgd (jK t376.2 y0 = 8) <| jgd (jin (y3 + (1 : Int32)) (jZ t376.2 y0) = true) <| jgd (jin (y3 + (2 : Int32)) (jZ t376.2 y0) = true) <| jgd (jin (y3 + (3 : Int32)) (jZ t376.2 y0) = true) <| jgd (jin (y3 + (4 : Int32)) (jZ t376.2 y0) = true) <| jgd (jin (y3 + (5 : Int32)) (jZ t376.2 y0) = true) <| jgd (jK t376.2 y2 = 42) <| jb (c_X10_lot F t376.2 y2 (jI t376.2 y0 (y3 + (1 : Int32)).toNatClampNeg) (jI t376.2 y0 (y3 + (2 : Int32)).toNatClampNeg) (jI t376.2 y0 (y3 + (3 : Int32)).toNatClampNeg) (jI t376.2 y0 (y3 + (4 : Int32)).toNatClampNeg) (jI t376.2 y0 (y3 + (5 : Int32)).toNatClampNeg)) fun t385 => (if (lg_cmp t376.1 t385.1) = 0 then B t385.2 y0 y1 y2 (y3 + (6 : Int32)) else some (.inl ((0 : Int32), t385.2))) else if ((jI m y0 y3.toNatClampNeg) &&& (63 : Int32)) = (30 : Int32) then jgd (jin (y3 + (1 : Int32)) (jZ m y0) = true) <| jgd (jin (y3 + (2 : Int32)) (jZ m y0) = true) <| jgd (jK m y1 = 41) <| jb (c_X9_tells F m y1 (jI m y0 (y3 + (1 : Int32)).toNatClampNeg) (jI m y0 (y3 + (2 : Int32)).toNatClampNeg)) fun t392 => jgd (jK t392.2 y0 = 8) <| jgd (jin (y3 + (1 : Int32)) (jZ t392.2 y0) = true) <| jgd (jin (y3 + (2 : Int32)) (jZ t392.2 y0) = true) <| jgd (jK t392.2 y2 = 42) <| jb (c_X10_tells F t392.2 y2 (jI t392.2 y0 (y3 + (1 : Int32)).toNatClampNeg) (jI t392.2 y0 (y3 + (2 : Int32)).toNatClampNeg)) fun t398 => (if t392.1 = t398.1 then B t398.2 y0 y1 y2 (y3 + (6 : Int32)) else some (.inl ((0 : Int32), t398.2))) else if ((jI m y0 y3.toNatClampNeg) &&& (63 : Int32)) = (31 : Int32) then jgd (jin (y3 + (1 : Int32)) (jZ m y0) = true) <| jgd (jin (y3 + (2 : Int32)) (jZ m y0) = true) <| jgd (jK m y1 = 41) <| jb (c_X9_film F m y1 (jI m y0 (y3 + (1 : Int32)).toNatClampNeg) (jI m y0 (y3 + (2 : Int32)).toNatClampNeg)) fun t405 => jgd (jK t405.2 y0 = 8) <| jgd (jin (y3 + (1 : Int32)) (jZ t405.2 y0) = true) <| jgd (jin (y3 + (2 : Int32)) (jZ t405.2 y0) = true) <| jgd (jK t405.2 y2 = 42) <| jb (c_X10_film F t405.2 y2 (jI t405.2 y0 (y3 + (1 : Int32)).toNatClampNeg) (jI t405.2 y0 (y3 + (2 : Int32)).toNatClampNeg)) fun t411 => (if t405.1 = t411.1 then B t411.2 y0 y1 y2 (y3 + (6 : Int32)) else some (.inl ((0 : Int32), t411.2))) else if ((jI m y0 y3.toNatClampNeg) &&& (63 : Int32)) = (32 : Int32) then jgd (jK m y1 = 41) <| jb (c_X9_image F m y1) fun t416 => jgd (jK t416.2 y2 = 42) <| jb (c_X10_image F t416.2 y2) fun t419 => (if t416.1 = t419.1 then B t419.2 y0 y1 y2 (y3 + (6 : Int32)) else some (.inl ((0 : Int32), t419.2))) else if ((jI m y0 y3.toNatClampNeg) &&& (63 : Int32)) = (33 : Int32) then jgd (jK m y1 = 41) <| jb (c_X9_back F m y1) fun t424 => jgd (jK t424.2 y2 = 42) <| jb (c_X10_back F t424.2 y2) fun t427 => (if t424.1 = t427.1 then B t427.2 y0 y1 y2 (y3 + (6 : Int32)) else some (.inl ((0 : Int32), t427.2))) else if ((jI m y0 y3.toNatClampNeg) &&& (63 : Int32)) = (34 : Int32) then jgd (jin (y3 + (1 : Int32)) (jZ m y0) = true) <| jgd (jK m y1 = 41) <| jb (c_X9_count F m y1 (jI m y0 (y3 + (1 : Int32)).toNatClampNeg)) fun t433 => jgd (jin (y3 + (1 : Int32)) (jZ m y0) = true) <| jgd (jK m y2 = 42) <| jb (c_X10_count F m y2 (jI m y0 (y3 + (1 : Int32)).toNatClampNeg)) fun t437 => (if t433 = t437 then B m y0 y1 y2 (y3 + (6 : Int32)) else some (.inl ((0 : Int32), m))) else if ((jI m y0 y3.toNatClampNeg) &&& (63 : Int32)) = (35 : Int32) then jgd (jin (y3 + (1 : Int32)) (jZ m y0) = true) <| jgd (jin (y3 + (2 : Int32)) (jZ m y0) = true) <| jgd (jin (y3 + (3 : Int32)) (jZ m y0) = true) <| jgd (jK m y1 = 41) <| jb (c_X9_sheet F m y1 (jI m y0 (y3 + (1 : Int32)).toNatClampNeg) (jI m y0 (y3 + (2 : Int32)).toNatClampNeg) (jI m y0 (y3 + (3 : Int32)).toNatClampNeg)) fun t445 => jgd (jK t445.2 y0 = 8) <| jgd (jin (y3 + (1 : Int32)) (jZ t445.2 y0) = true) <| jgd (jin (y3 + (2 : Int32)) (jZ t445.2 y0) = true) <| jgd (jin (y3 + (3 : Int32)) (jZ t445.2 y0) = true) <| jgd (jK t445.2 y2 = 42) <| jb (c_X10_sheet F t445.2 y2 (jI t445.2 y0 (y3 + (1 : Int32)).toNatClampNeg) (jI t445.2 y0 (y3 + (2 : Int32)).toNatClampNeg) (jI t445.2 y0 (y3 + (3 : Int32)).toNatClampNeg)) fun t452 => (if t445.1 = t452.1 then B t452.2 y0 y1 y2 (y3 + (6 : Int32)) else some (.inl ((0 : Int32), t452.2))) else if ((jI m y0 y3.toNatClampNeg) &&& (63 : Int32)) = (36 : Int32) then jgd (jin (y3 + (1 : Int32)) (jZ m y0) = true) <| jgd (jin (y3 + (2 : Int32)) (jZ m y0) = true) <| jgd (jin (y3 + (3 : Int32)) (jZ m y0) = true) <| jgd (jin (y3 + (4 : Int32)) (jZ m y0) = true) <| jgd (jK m y1 = 41) <| jb (c_X9_put F m y1 (jI m y0 (y3 + (1 : Int32)).toNatClampNeg) (jI m y0 (y3 + (2 : Int32)).toNatClampNeg) ((jlshl (Int32.toInt64 (jI m y0 (y3 + (3 : Int32)).toNatClampNeg)) (32 : Int32)) ||| ((Int32.toInt64 (jI m y0 (y3 + (4 : Int32)).toNatClampNeg)) &&& (4294967295 : Int64)))) fun t461 => jgd (jK t461.2 y0 = 8) <| jgd (jin (y3 + (1 : Int32)) (jZ t461.2 y0) = true) <| jgd (jin (y3 + (2 : Int32)) (jZ t461.2 y0) = true) <| jgd (jin (y3 + (3 : Int32)) (jZ t461.2 y0) = true) <| jgd (jin (y3 + (4 : Int32)) (jZ t461.2 y0) = true) <| jgd (jK t461.2 y2 = 42) <| jb (c_X10_put F t461.2 y2 (jI t461.2 y0 (y3 + (1 : Int32)).toNatClampNeg) (jI t461.2 y0 (y3 + (2 : Int32)).toNatClampNeg) ((jlshl (Int32.toInt64 (jI t461.2 y0 (y3 + (3 : Int32)).toNatClampNeg)) (32 : Int32)) ||| ((Int32.toInt64 (jI t461.2 y0 (y3 + (4 : Int32)).toNatClampNeg)) &&& (4294967295 : Int64)))) fun t469 => (if t461.1 = t469.1 then B t469.2 y0 y1 y2 (y3 + (6 : Int32)) else some (.inl ((0 : Int32), t469.2))) else if ((jI m y0 y3.toNatClampNeg) &&& (63 : Int32)) = (37 : Int32) then jgd (jin (y3 + (1 : Int32)) (jZ m y0) = true) <| jgd (jin (y3 + (2 : Int32)) (jZ m y0) = true) <| jgd (jK m y1 = 41) <| jb (c_X9_item F m y1 (jI m y0 (y3 + (1 : Int32)).toNatClampNeg) (jI m y0 (y3 + (2 : Int32)).toNatClampNeg)) fun t476 => jgd (jin (y3 + (1 : Int32)) (jZ m y0) = true) <| jgd (jin (y3 + (2 : Int32)) (jZ m y0) = true) <| jgd (jK m y2 = 42) <| jb (c_X10_item F m y2 (jI m y0 (y3 + (1 : Int32)).toNatClampNeg) (jI m y0 (y3 + (2 : Int32)).toNatClampNeg)) fun t481 => (if (lg_cmp t476 t481) = 0 then B m y0 y1 y2 (y3 + (6 : Int32)) else some (.inl ((0 : Int32), m))) else if ((jI m y0 y3.toNatClampNeg) &&& (63 : Int32)) = (38 : Int32) then jgd (jin (y3 + (1 : Int32)) (jZ m y0) = true) <| jgd (jin (y3 + (2 : Int32)) (jZ m y0) = true) <| jgd (jin (y3 + (3 : Int32)) (jZ m y0) = true) <| jgd (jin (y3 + (4 : Int32)) (jZ m y0) = true) <| jgd (jin (y3 + (5 : Int32)) (jZ m y0) = true) <| jgd (jK m y1 = 41) <| jb (c_X9_copy F m y1 (jI m y0 (y3 + (1 : Int32)).toNatClampNeg) (jI m y0 (y3 + (2 : Int32)).toNatClampNeg) (jI m y0 (y3 + (3 : Int32)).toNatClampNeg) (jI m y0 (y3 + (4 : Int32)).toNatClampNeg) (jI m y0 (y3 + (5 : Int32)).toNatClampNeg)) fun t491 => jgd (jK t491.2 y0 = 8) <| jgd (jin (y3 + (1 : Int32)) (jZ t491.2 y0) = true) <| jgd (jin (y3 + (2 : Int32)) (jZ t491.2 y0) = true) <| jgd (jin (y3 + (3 : Int32)) (jZ t491.2 y0) = true) <| jgd (jin (y3 + (4 : Int32)) (jZ t491.2 y0) = true) <| jgd (jin (y3 + (5 : Int32)) (jZ t491.2 y0) = true) <| jgd (jK t491.2 y2 = 42) <| jb (c_X10_copy F t491.2 y2 (jI t491.2 y0 (y3 + (1 : Int32)).toNatClampNeg) (jI t491.2 y0 (y3 + (2 : Int32)).toNatClampNeg) (jI t491.2 y0 (y3 + (3 : Int32)).toNatClampNeg) (jI t491.2 y0 (y3 + (4 : Int32)).toNatClampNeg) (jI t491.2 y0 (y3 + (5 : Int32)).toNatClampNeg)) fun t500 => (if t491.1 = t500.1 then B t500.2 y0 y1 y2 (y3 + (6 : Int32)) else some (.inl ((0 : Int32), t500.2))) else if ((jI m y0 y3.toNatClampNeg) &&& (63 : Int32)) = (39 : Int32) then jgd (jin (y3 + (1 : Int32)) (jZ m y0) = true) <| jgd (jin (y3 + (2 : Int32)) (jZ m y0) = true) <| jgd (jin (y3 + (3 : Int32)) (jZ m y0) = true) <| jgd (jin (y3 + (4 : Int32)) (jZ m y0) = true) <| jgd (jin (y3 + (5 : Int32)) (jZ m y0) = true) <| jgd (jK m y1 = 41) <| jb (c_X9_load F m y1 (jI m y0 (y3 + (1 : Int32)).toNatClampNeg) (jI m y0 (y3 + (2 : Int32)).toNatClampNeg) (jI m y0 (y3 + (3 : Int32)).toNatClampNeg) (jI m y0 (y3 + (4 : Int32)).toNatClampNeg) (jI m y0 (y3 + (5 : Int32)).toNatClampNeg)) fun t510 => jgd (jK t510.2 y0 = 8) <| jgd (jin (y3 + (1 : Int32)) (jZ t510.2 y0) = true) <| jgd (jin (y3 + (2 : Int32)) (jZ t510.2 y0) = true) <| jgd (jin (y3 + (3 : Int32)) (jZ t510.2 y0) = true) <| jgd (jin (y3 + (4 : Int32)) (jZ t510.2 y0) = true) <| jgd (jin (y3 + (5 : Int32)) (jZ t510.2 y0) = true) <| jgd (jK t510.2 y2 = 42) <| jb (c_X10_load F t510.2 y2 (jI t510.2 y0 (y3 + (1 : Int32)).toNatClampNeg) (jI t510.2 y0 (y3 + (2 : Int32)).toNatClampNeg) (jI t510.2 y0 (y3 + (3 : Int32)).toNatClampNeg) (jI t510.2 y0 (y3 + (4 : Int32)).toNatClampNeg) (jI t510.2 y0 (y3 + (5 : Int32)).toNatClampNeg)) fun t519 => (if t510.1 = t519.1 then B t519.2 y0 y1 y2 (y3 + (6 : Int32)) else some (.inl ((0 : Int32), t519.2))) else if ((jI m y0 y3.toNatClampNeg) &&& (63 : Int32)) = (40 : Int32) then jgd (jin (y3 + (1 : Int32)) (jZ m y0) = true) <| jgd (jin (y3 + (2 : Int32)) (jZ m y0) = true) <| jgd (jK m y1 = 41) <| jb (c_X9_taken F m y1 (jI m y0 (y3 + (1 : Int32)).toNatClampNeg) (jI m y0 (y3 + (2 : Int32)).toNatClampNeg)) fun t526 => jgd (jin (y3 + (1 : Int32)) (jZ m y0) = true) <| jgd (jin (y3 + (2 : Int32)) (jZ m y0) = true) <| jgd (jK m y2 = 42) <| jb (c_X10_taken F m y2 (jI m y0 (y3 + (1 : Int32)).toNatClampNeg) (jI m y0 (y3 + (2 : Int32)).toNatClampNeg)) fun t531 => (if t526 = t531 then B m y0 y1 y2 (y3 + (6 : Int32)) else some (.inl ((0 : Int32), m))) else B m y0 y1 y2 (y3 + (6 : Int32))))
set_option maxHeartbeats 40000000 in
theorem ec_L_law_l18_b {X : jX} {l : Launch} {d : Nat} (O : jOk X) (hd : 81 ≤ d) {F : Nat} {m0 m' : jMe} {v : Option jAV} {B : jMe → Nat → Nat → Nat → Int32 → Option ((Int32 × jMe) ⊕ jMe)} (hB : ∀ (m : jMe) (y0 : Nat) (y1 : Nat) (y2 : Nat) (y3 : Int32) (r : (Int32 × jMe) ⊕ jMe), B m y0 y1 y2 y3 = some r → (∀ q, r = .inl q → v = (some (.inl q.1)) ∧ m' = q.2) → (∀ e, r = .inr e → jS X l d jm_L_law m0 v m' (1644, [], [], e)) → jS X l d jm_L_law m0 v m' (18, [(0, .inr (.inr y0)), (1, .inr (.inr y1)), (2, .inr (.inr y2)), (3, .inl y3)], [], m)) {m : jMe} {y0 : Nat} {y1 : Nat} {y2 : Nat} {y3 : Int32} {r : (Int32 × jMe) ⊕ jMe} (H : c_L_law_l18_b F B m y0 y1 y2 y3 = some r) (h1 : ∀ q, r = .inl q → v = (some (.inl q.1)) ∧ m' = q.2) (h2 : ∀ e, r = .inr e → jS X l d jm_L_law m0 v m' (1644, [], [], e)) : jS X l d jm_L_law m0 v m' (18, [(0, .inr (.inr y0)), (1, .inr (.inr y1)), (2, .inr (.inr y2)), (3, .inl y3)], [], m) := by
  unfold c_L_law_l18_b at H
  obtain ⟨w7, H⟩ := jgd_ok H
  refine jS.adv O [(.iload_n 3, 0, 0, 0, 0, 0, 0), (.aload_n 0, 0, 0, 0, 0, 0, 0), (.arraylength, 0, 8, 0, 0, 0, 0), (.bipush 6, 0, 0, 0, 0, (6 : Int32), 0), (.isub, 0, 0, 0, 0, 0, 0)] (pc' := 24) (ls' := [(0, .inr (.inr y0)), (1, .inr (.inr y1)), (2, .inr (.inr y2)), (3, .inl y3)]) (st' := [.inl ((Int32.ofNat (jZ m y0)) - (6 : Int32)), .inl y3]) (m2 := m) (by decide +kernel) rfl ⟨w7, trivial⟩ ?_
  refine jS.br (i := .if_icmp .gt 1620) (P := ((Int32.ofNat (jZ m y0)) - (6 : Int32)) < y3) (rest := []) rfl (by decide +kernel) (tgt := 1644) (by decide) (fun c8 => ?_) (fun c8 => ?_)
  · replace H := jif_t c8 H
    replace H := Option.some.inj H
    subst H
    refine jS.loc' [] (ls' := []) rfl ?_
    exact h2 _ rfl
  · replace H := jif_f c8 H
    obtain ⟨w9, H⟩ := jgd_ok H
    refine jS.adv O [(.aload_n 0, 0, 0, 0, 0, 0, 0), (.iload_n 3, 0, 0, 0, 0, 0, 0), (.iaload, 0, 8, 0, 0, 0, 0), (.bipush 63, 0, 0, 0, 0, (63 : Int32), 0), (.iand, 0, 0, 0, 0, 0, 0)] (pc' := 33) (ls' := [(0, .inr (.inr y0)), (1, .inr (.inr y1)), (2, .inr (.inr y2)), (3, .inl y3)]) (st' := [.inl ((jI m y0 y3.toNatClampNeg) &&& (63 : Int32))]) (m2 := m) (by decide +kernel) rfl ⟨⟨w7, jib_ok w9⟩, trivial⟩ ?_
    by_cases c10 : ((jI m y0 y3.toNatClampNeg) &&& (63 : Int32)) = (0 : Int32)
    · replace H := jif_t c10 H
      refine jS.tswIn (dflt := 1605) (lo := 0) (hi := 40) (offs := #[179, 212, 275, 308, 341, 384, 427, 461, 494, 517, 540, 563, 576, 599, 633, 657, 671, 685, 748, 772, 805, 849, 893, 927, 950, 973, 1007, 1031, 1094, 1117, 1181, 1214, 1247, 1260, 1273, 1296, 1339, 1412, 1446, 1509, 1572]) (off := 179) c10 (len := 179) (tgt := 212) (by decide +kernel) (by decide) (by decide) rfl (by decide) ?_
      obtain ⟨w11, H⟩ := jgd_ok H
      obtain ⟨w12, H⟩ := jgd_ok H
      obtain ⟨w13, H⟩ := jgd_ok H
      refine jS.adv O [(.aload_n 1, 0, 0, 0, 0, 0, 0), (.aload_n 0, 0, 0, 0, 0, 0, 0), (.iload_n 3, 0, 0, 0, 0, 0, 0), (.iconst 1, 0, 0, 0, 0, (1 : Int32), 0), (.iadd, 0, 0, 0, 0, 0, 0), (.iaload, 0, 8, 0, 0, 0, 0), (.aload_n 0, 0, 0, 0, 0, 0, 0), (.iload_n 3, 0, 0, 0, 0, 0, 0), (.iconst 2, 0, 0, 0, 0, (2 : Int32), 0), (.iadd, 0, 0, 0, 0, 0, 0), (.iaload, 0, 8, 0, 0, 0, 0)] (pc' := 223) (ls' := [(0, .inr (.inr y0)), (1, .inr (.inr y1)), (2, .inr (.inr y2)), (3, .inl y3)]) (st' := [.inl (jI m y0 (y3 + (2 : Int32)).toNatClampNeg), .inl (jI m y0 (y3 + (1 : Int32)).toNatClampNeg), .inr (.inr y1)]) (m2 := m) (by decide +kernel) rfl ⟨⟨w7, jib_ok w11⟩, ⟨w7, jib_ok w12⟩, trivial⟩ ?_
      obtain ⟨t15, w14, H⟩ := jb_ok H
      refine jS.step (c' := (226, [(0, .inr (.inr y0)), (1, .inr (.inr y1)), (2, .inr (.inr y2)), (3, .inl y3)], [.inl t15.1], t15.2)) (jSt.callV (c := 9) (As := [.inl (jI m y0 (y3 + (1 : Int32)).toNatClampNeg), .inl (jI m y0 (y3 + (2 : Int32)).toNatClampNeg)]) (rest := []) O (ec_X9_relation (d := 4) O (Nat.le_refl _) w14) w13 (by decide) rfl (by omega) jmw_X9_relation jmv_X9_relation jmn_X9_relation (idx := 13) (jW_of 627 (by decide +kernel) rfl) (Nat.le_of_ble_eq_true rfl) (by decide +kernel)) ?_
      obtain ⟨w16, H⟩ := jgd_ok H
      obtain ⟨w17, H⟩ := jgd_ok H
      obtain ⟨w18, H⟩ := jgd_ok H
      obtain ⟨w19, H⟩ := jgd_ok H
      refine jS.adv O [(.aload_n 2, 0, 0, 0, 0, 0, 0), (.aload_n 0, 0, 0, 0, 0, 0, 0), (.iload_n 3, 0, 0, 0, 0, 0, 0), (.iconst 1, 0, 0, 0, 0, (1 : Int32), 0), (.iadd, 0, 0, 0, 0, 0, 0), (.iaload, 0, 8, 0, 0, 0, 0), (.aload_n 0, 0, 0, 0, 0, 0, 0), (.iload_n 3, 0, 0, 0, 0, 0, 0), (.iconst 2, 0, 0, 0, 0, (2 : Int32), 0), (.iadd, 0, 0, 0, 0, 0, 0), (.iaload, 0, 8, 0, 0, 0, 0)] (pc' := 237) (ls' := [(0, .inr (.inr y0)), (1, .inr (.inr y1)), (2, .inr (.inr y2)), (3, .inl y3)]) (st' := [.inl (jI t15.2 y0 (y3 + (2 : Int32)).toNatClampNeg), .inl (jI t15.2 y0 (y3 + (1 : Int32)).toNatClampNeg), .inr (.inr y2), .inl t15.1]) (m2 := t15.2) (by decide +kernel) rfl ⟨⟨w16, jib_ok w17⟩, ⟨w16, jib_ok w18⟩, trivial⟩ ?_
      obtain ⟨t21, w20, H⟩ := jb_ok H
      refine jS.step (c' := (240, [(0, .inr (.inr y0)), (1, .inr (.inr y1)), (2, .inr (.inr y2)), (3, .inl y3)], [.inl t21.1, .inl t15.1], t21.2)) (jSt.callV (c := 10) (As := [.inl (jI t15.2 y0 (y3 + (1 : Int32)).toNatClampNeg), .inl (jI t15.2 y0 (y3 + (2 : Int32)).toNatClampNeg)]) (rest := [.inl t15.1]) O (ec_X10_relation (d := 3) O (Nat.le_refl _) w20) w19 (by decide) rfl (by omega) jmw_X10_relation jmv_X10_relation jmn_X10_relation (idx := 17) (jW_of 1550 (by decide +kernel) rfl) (Nat.le_of_ble_eq_true rfl) (by decide +kernel)) ?_
      refine jS.br (i := .if_icmp .eq 1398) (P := t15.1 = t21.1) (rest := []) rfl (by decide +kernel) (tgt := 1638) (by decide) (fun c22 => ?_) (fun c22 => ?_)
      · replace H := jif_t c22 H
        refine jS.adv O [(.iinc 3 6, 0, 0, 0, 0, (6 : Int32), 0), (.goto (-1623), 0, 18, 0, 0, 0, 0)] (pc' := 18) (ls' := [(3, .inl (y3 + (6 : Int32))), (0, .inr (.inr y0)), (1, .inr (.inr y1)), (2, .inr (.inr y2))]) (st' := []) (m2 := t21.2) (by decide +kernel) rfl trivial ?_
        refine jS.loc' [1, 2, 3, 0] (ls' := [(0, .inr (.inr y0)), (1, .inr (.inr y1)), (2, .inr (.inr y2)), (3, .inl (y3 + (6 : Int32)))]) rfl ?_
        exact hB _ _ _ _ _ _ H h1 h2
      · replace H := jif_f c22 H
        refine jS.adv O [(.iconst 0, 0, 0, 0, 0, (0 : Int32), 0)] (pc' := 244) (ls' := [(0, .inr (.inr y0)), (1, .inr (.inr y1)), (2, .inr (.inr y2)), (3, .inl y3)]) (st' := [.inl (0 : Int32)]) (m2 := t21.2) (by decide +kernel) rfl trivial ?_
        replace H := Option.some.inj H
        subst H
        obtain ⟨q1, q2⟩ := h1 _ rfl
        subst q1; subst q2
        exact jS.zret rfl (Or.inl rfl) (by decide +kernel)
    replace H := jif_f c10 H
    by_cases c23 : ((jI m y0 y3.toNatClampNeg) &&& (63 : Int32)) = (1 : Int32)
    · replace H := jif_t c23 H
      refine jS.tswIn (dflt := 1605) (lo := 0) (hi := 40) (offs := #[179, 212, 275, 308, 341, 384, 427, 461, 494, 517, 540, 563, 576, 599, 633, 657, 671, 685, 748, 772, 805, 849, 893, 927, 950, 973, 1007, 1031, 1094, 1117, 1181, 1214, 1247, 1260, 1273, 1296, 1339, 1412, 1446, 1509, 1572]) (off := 212) c23 (len := 179) (tgt := 245) (by decide +kernel) (by decide) (by decide) rfl (by decide) ?_
      obtain ⟨w24, H⟩ := jgd_ok H
      obtain ⟨w25, H⟩ := jgd_ok H
      obtain ⟨w26, H⟩ := jgd_ok H
      obtain ⟨w27, H⟩ := jgd_ok H
      obtain ⟨w28, H⟩ := jgd_ok H
      obtain ⟨w29, H⟩ := jgd_ok H
      refine jS.adv O [(.aload_n 1, 0, 0, 0, 0, 0, 0), (.aload_n 0, 0, 0, 0, 0, 0, 0), (.iload_n 3, 0, 0, 0, 0, 0, 0), (.iconst 1, 0, 0, 0, 0, (1 : Int32), 0), (.iadd, 0, 0, 0, 0, 0, 0), (.iaload, 0, 8, 0, 0, 0, 0), (.aload_n 0, 0, 0, 0, 0, 0, 0), (.iload_n 3, 0, 0, 0, 0, 0, 0), (.iconst 2, 0, 0, 0, 0, (2 : Int32), 0), (.iadd, 0, 0, 0, 0, 0, 0), (.iaload, 0, 8, 0, 0, 0, 0), (.aload_n 0, 0, 0, 0, 0, 0, 0), (.iload_n 3, 0, 0, 0, 0, 0, 0), (.iconst 3, 0, 0, 0, 0, (3 : Int32), 0), (.iadd, 0, 0, 0, 0, 0, 0), (.iaload, 0, 8, 0, 0, 0, 0), (.aload_n 0, 0, 0, 0, 0, 0, 0), (.iload_n 3, 0, 0, 0, 0, 0, 0), (.iconst 4, 0, 0, 0, 0, (4 : Int32), 0), (.iadd, 0, 0, 0, 0, 0, 0), (.iaload, 0, 8, 0, 0, 0, 0), (.aload_n 0, 0, 0, 0, 0, 0, 0), (.iload_n 3, 0, 0, 0, 0, 0, 0), (.iconst 5, 0, 0, 0, 0, (5 : Int32), 0), (.iadd, 0, 0, 0, 0, 0, 0), (.iaload, 0, 8, 0, 0, 0, 0)] (pc' := 271) (ls' := [(0, .inr (.inr y0)), (1, .inr (.inr y1)), (2, .inr (.inr y2)), (3, .inl y3)]) (st' := [.inl (jI m y0 (y3 + (5 : Int32)).toNatClampNeg), .inl (jI m y0 (y3 + (4 : Int32)).toNatClampNeg), .inl (jI m y0 (y3 + (3 : Int32)).toNatClampNeg), .inl (jI m y0 (y3 + (2 : Int32)).toNatClampNeg), .inl (jI m y0 (y3 + (1 : Int32)).toNatClampNeg), .inr (.inr y1)]) (m2 := m) (by decide +kernel) rfl ⟨⟨w7, jib_ok w24⟩, ⟨w7, jib_ok w25⟩, ⟨w7, jib_ok w26⟩, ⟨w7, jib_ok w27⟩, ⟨w7, jib_ok w28⟩, trivial⟩ ?_
      obtain ⟨t31, w30, H⟩ := jb_ok H
      refine jS.step (c' := (274, [(0, .inr (.inr y0)), (1, .inr (.inr y1)), (2, .inr (.inr y2)), (3, .inl y3)], [.inl t31.1], t31.2)) (jSt.callV (c := 9) (As := [.inl (jI m y0 (y3 + (1 : Int32)).toNatClampNeg), .inl (jI m y0 (y3 + (2 : Int32)).toNatClampNeg), .inl (jI m y0 (y3 + (3 : Int32)).toNatClampNeg), .inl (jI m y0 (y3 + (4 : Int32)).toNatClampNeg), .inl (jI m y0 (y3 + (5 : Int32)).toNatClampNeg)]) (rest := []) O (ec_X9_row (d := 7) O (Nat.le_refl _) w30) w29 (by decide) rfl (by omega) jmw_X9_row jmv_X9_row jmn_X9_row (idx := 18) (jW_of 644 (by decide +kernel) rfl) (Nat.le_of_ble_eq_true rfl) (by decide +kernel)) ?_
      obtain ⟨w32, H⟩ := jgd_ok H
      obtain ⟨w33, H⟩ := jgd_ok H
      obtain ⟨w34, H⟩ := jgd_ok H
      obtain ⟨w35, H⟩ := jgd_ok H
      obtain ⟨w36, H⟩ := jgd_ok H
      obtain ⟨w37, H⟩ := jgd_ok H
      obtain ⟨w38, H⟩ := jgd_ok H
      refine jS.adv O [(.aload_n 2, 0, 0, 0, 0, 0, 0), (.aload_n 0, 0, 0, 0, 0, 0, 0), (.iload_n 3, 0, 0, 0, 0, 0, 0), (.iconst 1, 0, 0, 0, 0, (1 : Int32), 0), (.iadd, 0, 0, 0, 0, 0, 0), (.iaload, 0, 8, 0, 0, 0, 0), (.aload_n 0, 0, 0, 0, 0, 0, 0), (.iload_n 3, 0, 0, 0, 0, 0, 0), (.iconst 2, 0, 0, 0, 0, (2 : Int32), 0), (.iadd, 0, 0, 0, 0, 0, 0), (.iaload, 0, 8, 0, 0, 0, 0), (.aload_n 0, 0, 0, 0, 0, 0, 0), (.iload_n 3, 0, 0, 0, 0, 0, 0), (.iconst 3, 0, 0, 0, 0, (3 : Int32), 0), (.iadd, 0, 0, 0, 0, 0, 0), (.iaload, 0, 8, 0, 0, 0, 0), (.aload_n 0, 0, 0, 0, 0, 0, 0), (.iload_n 3, 0, 0, 0, 0, 0, 0), (.iconst 4, 0, 0, 0, 0, (4 : Int32), 0), (.iadd, 0, 0, 0, 0, 0, 0), (.iaload, 0, 8, 0, 0, 0, 0), (.aload_n 0, 0, 0, 0, 0, 0, 0), (.iload_n 3, 0, 0, 0, 0, 0, 0), (.iconst 5, 0, 0, 0, 0, (5 : Int32), 0), (.iadd, 0, 0, 0, 0, 0, 0), (.iaload, 0, 8, 0, 0, 0, 0)] (pc' := 300) (ls' := [(0, .inr (.inr y0)), (1, .inr (.inr y1)), (2, .inr (.inr y2)), (3, .inl y3)]) (st' := [.inl (jI t31.2 y0 (y3 + (5 : Int32)).toNatClampNeg), .inl (jI t31.2 y0 (y3 + (4 : Int32)).toNatClampNeg), .inl (jI t31.2 y0 (y3 + (3 : Int32)).toNatClampNeg), .inl (jI t31.2 y0 (y3 + (2 : Int32)).toNatClampNeg), .inl (jI t31.2 y0 (y3 + (1 : Int32)).toNatClampNeg), .inr (.inr y2), .inl t31.1]) (m2 := t31.2) (by decide +kernel) rfl ⟨⟨w32, jib_ok w33⟩, ⟨w32, jib_ok w34⟩, ⟨w32, jib_ok w35⟩, ⟨w32, jib_ok w36⟩, ⟨w32, jib_ok w37⟩, trivial⟩ ?_
      obtain ⟨t40, w39, H⟩ := jb_ok H
      refine jS.step (c' := (303, [(0, .inr (.inr y0)), (1, .inr (.inr y1)), (2, .inr (.inr y2)), (3, .inl y3)], [.inl t40.1, .inl t31.1], t40.2)) (jSt.callV (c := 10) (As := [.inl (jI t31.2 y0 (y3 + (1 : Int32)).toNatClampNeg), .inl (jI t31.2 y0 (y3 + (2 : Int32)).toNatClampNeg), .inl (jI t31.2 y0 (y3 + (3 : Int32)).toNatClampNeg), .inl (jI t31.2 y0 (y3 + (4 : Int32)).toNatClampNeg), .inl (jI t31.2 y0 (y3 + (5 : Int32)).toNatClampNeg)]) (rest := [.inl t31.1]) O (ec_X10_row (d := 5) O (Nat.le_refl _) w39) w38 (by decide) rfl (by omega) jmw_X10_row jmv_X10_row jmn_X10_row (idx := 22) (jW_of 1562 (by decide +kernel) rfl) (Nat.le_of_ble_eq_true rfl) (by decide +kernel)) ?_
      refine jS.br (i := .if_icmp .eq 1335) (P := t31.1 = t40.1) (rest := []) rfl (by decide +kernel) (tgt := 1638) (by decide) (fun c41 => ?_) (fun c41 => ?_)
      · replace H := jif_t c41 H
        refine jS.adv O [(.iinc 3 6, 0, 0, 0, 0, (6 : Int32), 0), (.goto (-1623), 0, 18, 0, 0, 0, 0)] (pc' := 18) (ls' := [(3, .inl (y3 + (6 : Int32))), (0, .inr (.inr y0)), (1, .inr (.inr y1)), (2, .inr (.inr y2))]) (st' := []) (m2 := t40.2) (by decide +kernel) rfl trivial ?_
        refine jS.loc' [1, 2, 3, 0] (ls' := [(0, .inr (.inr y0)), (1, .inr (.inr y1)), (2, .inr (.inr y2)), (3, .inl (y3 + (6 : Int32)))]) rfl ?_
        exact hB _ _ _ _ _ _ H h1 h2
      · replace H := jif_f c41 H
        refine jS.adv O [(.iconst 0, 0, 0, 0, 0, (0 : Int32), 0)] (pc' := 307) (ls' := [(0, .inr (.inr y0)), (1, .inr (.inr y1)), (2, .inr (.inr y2)), (3, .inl y3)]) (st' := [.inl (0 : Int32)]) (m2 := t40.2) (by decide +kernel) rfl trivial ?_
        replace H := Option.some.inj H
        subst H
        obtain ⟨q1, q2⟩ := h1 _ rfl
        subst q1; subst q2
        exact jS.zret rfl (Or.inl rfl) (by decide +kernel)
    replace H := jif_f c23 H
    by_cases c42 : ((jI m y0 y3.toNatClampNeg) &&& (63 : Int32)) = (2 : Int32)
    · replace H := jif_t c42 H
      refine jS.tswIn (dflt := 1605) (lo := 0) (hi := 40) (offs := #[179, 212, 275, 308, 341, 384, 427, 461, 494, 517, 540, 563, 576, 599, 633, 657, 671, 685, 748, 772, 805, 849, 893, 927, 950, 973, 1007, 1031, 1094, 1117, 1181, 1214, 1247, 1260, 1273, 1296, 1339, 1412, 1446, 1509, 1572]) (off := 275) c42 (len := 179) (tgt := 308) (by decide +kernel) (by decide) (by decide) rfl (by decide) ?_
      obtain ⟨w43, H⟩ := jgd_ok H
      obtain ⟨w44, H⟩ := jgd_ok H
      obtain ⟨w45, H⟩ := jgd_ok H
      refine jS.adv O [(.aload_n 1, 0, 0, 0, 0, 0, 0), (.aload_n 0, 0, 0, 0, 0, 0, 0), (.iload_n 3, 0, 0, 0, 0, 0, 0), (.iconst 1, 0, 0, 0, 0, (1 : Int32), 0), (.iadd, 0, 0, 0, 0, 0, 0), (.iaload, 0, 8, 0, 0, 0, 0), (.aload_n 0, 0, 0, 0, 0, 0, 0), (.iload_n 3, 0, 0, 0, 0, 0, 0), (.iconst 2, 0, 0, 0, 0, (2 : Int32), 0), (.iadd, 0, 0, 0, 0, 0, 0), (.iaload, 0, 8, 0, 0, 0, 0)] (pc' := 319) (ls' := [(0, .inr (.inr y0)), (1, .inr (.inr y1)), (2, .inr (.inr y2)), (3, .inl y3)]) (st' := [.inl (jI m y0 (y3 + (2 : Int32)).toNatClampNeg), .inl (jI m y0 (y3 + (1 : Int32)).toNatClampNeg), .inr (.inr y1)]) (m2 := m) (by decide +kernel) rfl ⟨⟨w7, jib_ok w43⟩, ⟨w7, jib_ok w44⟩, trivial⟩ ?_
      obtain ⟨t47, w46, H⟩ := jb_ok H
      refine jS.step (c' := (322, [(0, .inr (.inr y0)), (1, .inr (.inr y1)), (2, .inr (.inr y2)), (3, .inl y3)], [.inl t47.1], t47.2)) (jSt.callV (c := 9) (As := [.inl (jI m y0 (y3 + (1 : Int32)).toNatClampNeg), .inl (jI m y0 (y3 + (2 : Int32)).toNatClampNeg)]) (rest := []) O (ec_X9_remove (d := 5) O (Nat.le_refl _) w46) w45 (by decide) rfl (by omega) jmw_X9_remove jmv_X9_remove jmn_X9_remove (idx := 23) (jW_of 699 (by decide +kernel) rfl) (Nat.le_of_ble_eq_true rfl) (by decide +kernel)) ?_
      obtain ⟨w48, H⟩ := jgd_ok H
      obtain ⟨w49, H⟩ := jgd_ok H
      obtain ⟨w50, H⟩ := jgd_ok H
      obtain ⟨w51, H⟩ := jgd_ok H
      refine jS.adv O [(.aload_n 2, 0, 0, 0, 0, 0, 0), (.aload_n 0, 0, 0, 0, 0, 0, 0), (.iload_n 3, 0, 0, 0, 0, 0, 0), (.iconst 1, 0, 0, 0, 0, (1 : Int32), 0), (.iadd, 0, 0, 0, 0, 0, 0), (.iaload, 0, 8, 0, 0, 0, 0), (.aload_n 0, 0, 0, 0, 0, 0, 0), (.iload_n 3, 0, 0, 0, 0, 0, 0), (.iconst 2, 0, 0, 0, 0, (2 : Int32), 0), (.iadd, 0, 0, 0, 0, 0, 0), (.iaload, 0, 8, 0, 0, 0, 0)] (pc' := 333) (ls' := [(0, .inr (.inr y0)), (1, .inr (.inr y1)), (2, .inr (.inr y2)), (3, .inl y3)]) (st' := [.inl (jI t47.2 y0 (y3 + (2 : Int32)).toNatClampNeg), .inl (jI t47.2 y0 (y3 + (1 : Int32)).toNatClampNeg), .inr (.inr y2), .inl t47.1]) (m2 := t47.2) (by decide +kernel) rfl ⟨⟨w48, jib_ok w49⟩, ⟨w48, jib_ok w50⟩, trivial⟩ ?_
      obtain ⟨t53, w52, H⟩ := jb_ok H
      refine jS.step (c' := (336, [(0, .inr (.inr y0)), (1, .inr (.inr y1)), (2, .inr (.inr y2)), (3, .inl y3)], [.inl t53.1, .inl t47.1], t53.2)) (jSt.callV (c := 10) (As := [.inl (jI t47.2 y0 (y3 + (1 : Int32)).toNatClampNeg), .inl (jI t47.2 y0 (y3 + (2 : Int32)).toNatClampNeg)]) (rest := [.inl t47.1]) O (ec_X10_remove (d := 5) O (Nat.le_refl _) w52) w51 (by decide) rfl (by omega) jmw_X10_remove jmv_X10_remove jmn_X10_remove (idx := 26) (jW_of 1598 (by decide +kernel) rfl) (Nat.le_of_ble_eq_true rfl) (by decide +kernel)) ?_
      refine jS.br (i := .if_icmp .eq 1302) (P := t47.1 = t53.1) (rest := []) rfl (by decide +kernel) (tgt := 1638) (by decide) (fun c54 => ?_) (fun c54 => ?_)
      · replace H := jif_t c54 H
        refine jS.adv O [(.iinc 3 6, 0, 0, 0, 0, (6 : Int32), 0), (.goto (-1623), 0, 18, 0, 0, 0, 0)] (pc' := 18) (ls' := [(3, .inl (y3 + (6 : Int32))), (0, .inr (.inr y0)), (1, .inr (.inr y1)), (2, .inr (.inr y2))]) (st' := []) (m2 := t53.2) (by decide +kernel) rfl trivial ?_
        refine jS.loc' [1, 2, 3, 0] (ls' := [(0, .inr (.inr y0)), (1, .inr (.inr y1)), (2, .inr (.inr y2)), (3, .inl (y3 + (6 : Int32)))]) rfl ?_
        exact hB _ _ _ _ _ _ H h1 h2
      · replace H := jif_f c54 H
        refine jS.adv O [(.iconst 0, 0, 0, 0, 0, (0 : Int32), 0)] (pc' := 340) (ls' := [(0, .inr (.inr y0)), (1, .inr (.inr y1)), (2, .inr (.inr y2)), (3, .inl y3)]) (st' := [.inl (0 : Int32)]) (m2 := t53.2) (by decide +kernel) rfl trivial ?_
        replace H := Option.some.inj H
        subst H
        obtain ⟨q1, q2⟩ := h1 _ rfl
        subst q1; subst q2
        exact jS.zret rfl (Or.inl rfl) (by decide +kernel)
    replace H := jif_f c42 H
    by_cases c55 : ((jI m y0 y3.toNatClampNeg) &&& (63 : Int32)) = (3 : Int32)
    · replace H := jif_t c55 H
      refine jS.tswIn (dflt := 1605) (lo := 0) (hi := 40) (offs := #[179, 212, 275, 308, 341, 384, 427, 461, 494, 517, 540, 563, 576, 599, 633, 657, 671, 685, 748, 772, 805, 849, 893, 927, 950, 973, 1007, 1031, 1094, 1117, 1181, 1214, 1247, 1260, 1273, 1296, 1339, 1412, 1446, 1509, 1572]) (off := 308) c55 (len := 179) (tgt := 341) (by decide +kernel) (by decide) (by decide) rfl (by decide) ?_
      obtain ⟨w56, H⟩ := jgd_ok H
      obtain ⟨w57, H⟩ := jgd_ok H
      obtain ⟨w58, H⟩ := jgd_ok H
      refine jS.adv O [(.aload_n 1, 0, 0, 0, 0, 0, 0), (.aload_n 0, 0, 0, 0, 0, 0, 0), (.iload_n 3, 0, 0, 0, 0, 0, 0), (.iconst 1, 0, 0, 0, 0, (1 : Int32), 0), (.iadd, 0, 0, 0, 0, 0, 0), (.iaload, 0, 8, 0, 0, 0, 0), (.aload_n 0, 0, 0, 0, 0, 0, 0), (.iload_n 3, 0, 0, 0, 0, 0, 0), (.iconst 2, 0, 0, 0, 0, (2 : Int32), 0), (.iadd, 0, 0, 0, 0, 0, 0), (.iaload, 0, 8, 0, 0, 0, 0)] (pc' := 352) (ls' := [(0, .inr (.inr y0)), (1, .inr (.inr y1)), (2, .inr (.inr y2)), (3, .inl y3)]) (st' := [.inl (jI m y0 (y3 + (2 : Int32)).toNatClampNeg), .inl (jI m y0 (y3 + (1 : Int32)).toNatClampNeg), .inr (.inr y1)]) (m2 := m) (by decide +kernel) rfl ⟨⟨w7, jib_ok w56⟩, ⟨w7, jib_ok w57⟩, trivial⟩ ?_
      obtain ⟨t60, w59, H⟩ := jb_ok H
      refine jS.step (c' := (355, [(0, .inr (.inr y0)), (1, .inr (.inr y1)), (2, .inr (.inr y2)), (3, .inl y3)], [.inl t60.1], t60.2)) (jSt.callV (c := 9) (As := [.inl (jI m y0 (y3 + (1 : Int32)).toNatClampNeg), .inl (jI m y0 (y3 + (2 : Int32)).toNatClampNeg)]) (rest := []) O (ec_X9_restore (d := 6) O (Nat.le_refl _) w59) w58 (by decide) rfl (by omega) jmw_X9_restore jmv_X9_restore jmn_X9_restore (idx := 27) (jW_of 714 (by decide +kernel) rfl) (Nat.le_of_ble_eq_true rfl) (by decide +kernel)) ?_
      obtain ⟨w61, H⟩ := jgd_ok H
      obtain ⟨w62, H⟩ := jgd_ok H
      obtain ⟨w63, H⟩ := jgd_ok H
      obtain ⟨w64, H⟩ := jgd_ok H
      refine jS.adv O [(.aload_n 2, 0, 0, 0, 0, 0, 0), (.aload_n 0, 0, 0, 0, 0, 0, 0), (.iload_n 3, 0, 0, 0, 0, 0, 0), (.iconst 1, 0, 0, 0, 0, (1 : Int32), 0), (.iadd, 0, 0, 0, 0, 0, 0), (.iaload, 0, 8, 0, 0, 0, 0), (.aload_n 0, 0, 0, 0, 0, 0, 0), (.iload_n 3, 0, 0, 0, 0, 0, 0), (.iconst 2, 0, 0, 0, 0, (2 : Int32), 0), (.iadd, 0, 0, 0, 0, 0, 0), (.iaload, 0, 8, 0, 0, 0, 0)] (pc' := 366) (ls' := [(0, .inr (.inr y0)), (1, .inr (.inr y1)), (2, .inr (.inr y2)), (3, .inl y3)]) (st' := [.inl (jI t60.2 y0 (y3 + (2 : Int32)).toNatClampNeg), .inl (jI t60.2 y0 (y3 + (1 : Int32)).toNatClampNeg), .inr (.inr y2), .inl t60.1]) (m2 := t60.2) (by decide +kernel) rfl ⟨⟨w61, jib_ok w62⟩, ⟨w61, jib_ok w63⟩, trivial⟩ ?_
      obtain ⟨t66, w65, H⟩ := jb_ok H
      refine jS.step (c' := (369, [(0, .inr (.inr y0)), (1, .inr (.inr y1)), (2, .inr (.inr y2)), (3, .inl y3)], [.inl t66.1, .inl t60.1], t66.2)) (jSt.callV (c := 10) (As := [.inl (jI t60.2 y0 (y3 + (1 : Int32)).toNatClampNeg), .inl (jI t60.2 y0 (y3 + (2 : Int32)).toNatClampNeg)]) (rest := [.inl t60.1]) O (ec_X10_restore (d := 5) O (Nat.le_refl _) w65) w64 (by decide) rfl (by omega) jmw_X10_restore jmv_X10_restore jmn_X10_restore (idx := 30) (jW_of 1610 (by decide +kernel) rfl) (Nat.le_of_ble_eq_true rfl) (by decide +kernel)) ?_
      refine jS.br (i := .if_icmp .eq 1269) (P := t60.1 = t66.1) (rest := []) rfl (by decide +kernel) (tgt := 1638) (by decide) (fun c67 => ?_) (fun c67 => ?_)
      · replace H := jif_t c67 H
        refine jS.adv O [(.iinc 3 6, 0, 0, 0, 0, (6 : Int32), 0), (.goto (-1623), 0, 18, 0, 0, 0, 0)] (pc' := 18) (ls' := [(3, .inl (y3 + (6 : Int32))), (0, .inr (.inr y0)), (1, .inr (.inr y1)), (2, .inr (.inr y2))]) (st' := []) (m2 := t66.2) (by decide +kernel) rfl trivial ?_
        refine jS.loc' [1, 2, 3, 0] (ls' := [(0, .inr (.inr y0)), (1, .inr (.inr y1)), (2, .inr (.inr y2)), (3, .inl (y3 + (6 : Int32)))]) rfl ?_
        exact hB _ _ _ _ _ _ H h1 h2
      · replace H := jif_f c67 H
        refine jS.adv O [(.iconst 0, 0, 0, 0, 0, (0 : Int32), 0)] (pc' := 373) (ls' := [(0, .inr (.inr y0)), (1, .inr (.inr y1)), (2, .inr (.inr y2)), (3, .inl y3)]) (st' := [.inl (0 : Int32)]) (m2 := t66.2) (by decide +kernel) rfl trivial ?_
        replace H := Option.some.inj H
        subst H
        obtain ⟨q1, q2⟩ := h1 _ rfl
        subst q1; subst q2
        exact jS.zret rfl (Or.inl rfl) (by decide +kernel)
    replace H := jif_f c55 H
    by_cases c68 : ((jI m y0 y3.toNatClampNeg) &&& (63 : Int32)) = (4 : Int32)
    · replace H := jif_t c68 H
      refine jS.tswIn (dflt := 1605) (lo := 0) (hi := 40) (offs := #[179, 212, 275, 308, 341, 384, 427, 461, 494, 517, 540, 563, 576, 599, 633, 657, 671, 685, 748, 772, 805, 849, 893, 927, 950, 973, 1007, 1031, 1094, 1117, 1181, 1214, 1247, 1260, 1273, 1296, 1339, 1412, 1446, 1509, 1572]) (off := 341) c68 (len := 179) (tgt := 374) (by decide +kernel) (by decide) (by decide) rfl (by decide) ?_
      obtain ⟨w69, H⟩ := jgd_ok H
      obtain ⟨w70, H⟩ := jgd_ok H
      obtain ⟨w71, H⟩ := jgd_ok H
      obtain ⟨w72, H⟩ := jgd_ok H
      refine jS.adv O [(.aload_n 1, 0, 0, 0, 0, 0, 0), (.aload_n 0, 0, 0, 0, 0, 0, 0), (.iload_n 3, 0, 0, 0, 0, 0, 0), (.iconst 1, 0, 0, 0, 0, (1 : Int32), 0), (.iadd, 0, 0, 0, 0, 0, 0), (.iaload, 0, 8, 0, 0, 0, 0), (.aload_n 0, 0, 0, 0, 0, 0, 0), (.iload_n 3, 0, 0, 0, 0, 0, 0), (.iconst 2, 0, 0, 0, 0, (2 : Int32), 0), (.iadd, 0, 0, 0, 0, 0, 0), (.iaload, 0, 8, 0, 0, 0, 0), (.aload_n 0, 0, 0, 0, 0, 0, 0), (.iload_n 3, 0, 0, 0, 0, 0, 0), (.iconst 3, 0, 0, 0, 0, (3 : Int32), 0), (.iadd, 0, 0, 0, 0, 0, 0), (.iaload, 0, 8, 0, 0, 0, 0)] (pc' := 390) (ls' := [(0, .inr (.inr y0)), (1, .inr (.inr y1)), (2, .inr (.inr y2)), (3, .inl y3)]) (st' := [.inl (jI m y0 (y3 + (3 : Int32)).toNatClampNeg), .inl (jI m y0 (y3 + (2 : Int32)).toNatClampNeg), .inl (jI m y0 (y3 + (1 : Int32)).toNatClampNeg), .inr (.inr y1)]) (m2 := m) (by decide +kernel) rfl ⟨⟨w7, jib_ok w69⟩, ⟨w7, jib_ok w70⟩, ⟨w7, jib_ok w71⟩, trivial⟩ ?_
      obtain ⟨t74, w73, H⟩ := jb_ok H
      refine jS.step (c' := (393, [(0, .inr (.inr y0)), (1, .inr (.inr y1)), (2, .inr (.inr y2)), (3, .inl y3)], [.inl t74.1], t74.2)) (jSt.callV (c := 9) (As := [.inl (jI m y0 (y3 + (1 : Int32)).toNatClampNeg), .inl (jI m y0 (y3 + (2 : Int32)).toNatClampNeg), .inl (jI m y0 (y3 + (3 : Int32)).toNatClampNeg)]) (rest := []) O (ec_X9_copies (d := 4) O (Nat.le_refl _) w73) w72 (by decide) rfl (by omega) jmw_X9_copies jmv_X9_copies jmn_X9_copies (idx := 31) (jW_of 718 (by decide +kernel) rfl) (Nat.le_of_ble_eq_true rfl) (by decide +kernel)) ?_
      obtain ⟨w75, H⟩ := jgd_ok H
      obtain ⟨w76, H⟩ := jgd_ok H
      obtain ⟨w77, H⟩ := jgd_ok H
      obtain ⟨w78, H⟩ := jgd_ok H
      obtain ⟨w79, H⟩ := jgd_ok H
      refine jS.adv O [(.aload_n 2, 0, 0, 0, 0, 0, 0), (.aload_n 0, 0, 0, 0, 0, 0, 0), (.iload_n 3, 0, 0, 0, 0, 0, 0), (.iconst 1, 0, 0, 0, 0, (1 : Int32), 0), (.iadd, 0, 0, 0, 0, 0, 0), (.iaload, 0, 8, 0, 0, 0, 0), (.aload_n 0, 0, 0, 0, 0, 0, 0), (.iload_n 3, 0, 0, 0, 0, 0, 0), (.iconst 2, 0, 0, 0, 0, (2 : Int32), 0), (.iadd, 0, 0, 0, 0, 0, 0), (.iaload, 0, 8, 0, 0, 0, 0), (.aload_n 0, 0, 0, 0, 0, 0, 0), (.iload_n 3, 0, 0, 0, 0, 0, 0), (.iconst 3, 0, 0, 0, 0, (3 : Int32), 0), (.iadd, 0, 0, 0, 0, 0, 0), (.iaload, 0, 8, 0, 0, 0, 0)] (pc' := 409) (ls' := [(0, .inr (.inr y0)), (1, .inr (.inr y1)), (2, .inr (.inr y2)), (3, .inl y3)]) (st' := [.inl (jI t74.2 y0 (y3 + (3 : Int32)).toNatClampNeg), .inl (jI t74.2 y0 (y3 + (2 : Int32)).toNatClampNeg), .inl (jI t74.2 y0 (y3 + (1 : Int32)).toNatClampNeg), .inr (.inr y2), .inl t74.1]) (m2 := t74.2) (by decide +kernel) rfl ⟨⟨w75, jib_ok w76⟩, ⟨w75, jib_ok w77⟩, ⟨w75, jib_ok w78⟩, trivial⟩ ?_
      obtain ⟨t81, w80, H⟩ := jb_ok H
      refine jS.step (c' := (412, [(0, .inr (.inr y0)), (1, .inr (.inr y1)), (2, .inr (.inr y2)), (3, .inl y3)], [.inl t81.1, .inl t74.1], t81.2)) (jSt.callV (c := 10) (As := [.inl (jI t74.2 y0 (y3 + (1 : Int32)).toNatClampNeg), .inl (jI t74.2 y0 (y3 + (2 : Int32)).toNatClampNeg), .inl (jI t74.2 y0 (y3 + (3 : Int32)).toNatClampNeg)]) (rest := [.inl t74.1]) O (ec_X10_copies (d := 5) O (Nat.le_refl _) w80) w79 (by decide) rfl (by omega) jmw_X10_copies jmv_X10_copies jmn_X10_copies (idx := 35) (jW_of 1614 (by decide +kernel) rfl) (Nat.le_of_ble_eq_true rfl) (by decide +kernel)) ?_
      refine jS.br (i := .if_icmp .eq 1226) (P := t74.1 = t81.1) (rest := []) rfl (by decide +kernel) (tgt := 1638) (by decide) (fun c82 => ?_) (fun c82 => ?_)
      · replace H := jif_t c82 H
        refine jS.adv O [(.iinc 3 6, 0, 0, 0, 0, (6 : Int32), 0), (.goto (-1623), 0, 18, 0, 0, 0, 0)] (pc' := 18) (ls' := [(3, .inl (y3 + (6 : Int32))), (0, .inr (.inr y0)), (1, .inr (.inr y1)), (2, .inr (.inr y2))]) (st' := []) (m2 := t81.2) (by decide +kernel) rfl trivial ?_
        refine jS.loc' [1, 2, 3, 0] (ls' := [(0, .inr (.inr y0)), (1, .inr (.inr y1)), (2, .inr (.inr y2)), (3, .inl (y3 + (6 : Int32)))]) rfl ?_
        exact hB _ _ _ _ _ _ H h1 h2
      · replace H := jif_f c82 H
        refine jS.adv O [(.iconst 0, 0, 0, 0, 0, (0 : Int32), 0)] (pc' := 416) (ls' := [(0, .inr (.inr y0)), (1, .inr (.inr y1)), (2, .inr (.inr y2)), (3, .inl y3)]) (st' := [.inl (0 : Int32)]) (m2 := t81.2) (by decide +kernel) rfl trivial ?_
        replace H := Option.some.inj H
        subst H
        obtain ⟨q1, q2⟩ := h1 _ rfl
        subst q1; subst q2
        exact jS.zret rfl (Or.inl rfl) (by decide +kernel)
    replace H := jif_f c68 H
    by_cases c83 : ((jI m y0 y3.toNatClampNeg) &&& (63 : Int32)) = (5 : Int32)
    · replace H := jif_t c83 H
      refine jS.tswIn (dflt := 1605) (lo := 0) (hi := 40) (offs := #[179, 212, 275, 308, 341, 384, 427, 461, 494, 517, 540, 563, 576, 599, 633, 657, 671, 685, 748, 772, 805, 849, 893, 927, 950, 973, 1007, 1031, 1094, 1117, 1181, 1214, 1247, 1260, 1273, 1296, 1339, 1412, 1446, 1509, 1572]) (off := 384) c83 (len := 179) (tgt := 417) (by decide +kernel) (by decide) (by decide) rfl (by decide) ?_
      obtain ⟨w84, H⟩ := jgd_ok H
      obtain ⟨w85, H⟩ := jgd_ok H
      obtain ⟨w86, H⟩ := jgd_ok H
      obtain ⟨w87, H⟩ := jgd_ok H
      refine jS.adv O [(.aload_n 1, 0, 0, 0, 0, 0, 0), (.aload_n 0, 0, 0, 0, 0, 0, 0), (.iload_n 3, 0, 0, 0, 0, 0, 0), (.iconst 1, 0, 0, 0, 0, (1 : Int32), 0), (.iadd, 0, 0, 0, 0, 0, 0), (.iaload, 0, 8, 0, 0, 0, 0), (.aload_n 0, 0, 0, 0, 0, 0, 0), (.iload_n 3, 0, 0, 0, 0, 0, 0), (.iconst 2, 0, 0, 0, 0, (2 : Int32), 0), (.iadd, 0, 0, 0, 0, 0, 0), (.iaload, 0, 8, 0, 0, 0, 0), (.aload_n 0, 0, 0, 0, 0, 0, 0), (.iload_n 3, 0, 0, 0, 0, 0, 0), (.iconst 3, 0, 0, 0, 0, (3 : Int32), 0), (.iadd, 0, 0, 0, 0, 0, 0), (.iaload, 0, 8, 0, 0, 0, 0)] (pc' := 433) (ls' := [(0, .inr (.inr y0)), (1, .inr (.inr y1)), (2, .inr (.inr y2)), (3, .inl y3)]) (st' := [.inl (jI m y0 (y3 + (3 : Int32)).toNatClampNeg), .inl (jI m y0 (y3 + (2 : Int32)).toNatClampNeg), .inl (jI m y0 (y3 + (1 : Int32)).toNatClampNeg), .inr (.inr y1)]) (m2 := m) (by decide +kernel) rfl ⟨⟨w7, jib_ok w84⟩, ⟨w7, jib_ok w85⟩, ⟨w7, jib_ok w86⟩, trivial⟩ ?_
      obtain ⟨t89, w88, H⟩ := jb_ok H
      refine jS.step (c' := (436, [(0, .inr (.inr y0)), (1, .inr (.inr y1)), (2, .inr (.inr y2)), (3, .inl y3)], [.inl t89.1], t89.2)) (jSt.callV (c := 9) (As := [.inl (jI m y0 (y3 + (1 : Int32)).toNatClampNeg), .inl (jI m y0 (y3 + (2 : Int32)).toNatClampNeg), .inl (jI m y0 (y3 + (3 : Int32)).toNatClampNeg)]) (rest := []) O (ec_X9_told (d := 6) O (Nat.le_refl _) w88) w87 (by decide) rfl (by omega) jmw_X9_told jmv_X9_told jmn_X9_told (idx := 36) (jW_of 722 (by decide +kernel) rfl) (Nat.le_of_ble_eq_true rfl) (by decide +kernel)) ?_
      obtain ⟨w90, H⟩ := jgd_ok H
      obtain ⟨w91, H⟩ := jgd_ok H
      obtain ⟨w92, H⟩ := jgd_ok H
      obtain ⟨w93, H⟩ := jgd_ok H
      obtain ⟨w94, H⟩ := jgd_ok H
      refine jS.adv O [(.aload_n 2, 0, 0, 0, 0, 0, 0), (.aload_n 0, 0, 0, 0, 0, 0, 0), (.iload_n 3, 0, 0, 0, 0, 0, 0), (.iconst 1, 0, 0, 0, 0, (1 : Int32), 0), (.iadd, 0, 0, 0, 0, 0, 0), (.iaload, 0, 8, 0, 0, 0, 0), (.aload_n 0, 0, 0, 0, 0, 0, 0), (.iload_n 3, 0, 0, 0, 0, 0, 0), (.iconst 2, 0, 0, 0, 0, (2 : Int32), 0), (.iadd, 0, 0, 0, 0, 0, 0), (.iaload, 0, 8, 0, 0, 0, 0), (.aload_n 0, 0, 0, 0, 0, 0, 0), (.iload_n 3, 0, 0, 0, 0, 0, 0), (.iconst 3, 0, 0, 0, 0, (3 : Int32), 0), (.iadd, 0, 0, 0, 0, 0, 0), (.iaload, 0, 8, 0, 0, 0, 0)] (pc' := 452) (ls' := [(0, .inr (.inr y0)), (1, .inr (.inr y1)), (2, .inr (.inr y2)), (3, .inl y3)]) (st' := [.inl (jI t89.2 y0 (y3 + (3 : Int32)).toNatClampNeg), .inl (jI t89.2 y0 (y3 + (2 : Int32)).toNatClampNeg), .inl (jI t89.2 y0 (y3 + (1 : Int32)).toNatClampNeg), .inr (.inr y2), .inl t89.1]) (m2 := t89.2) (by decide +kernel) rfl ⟨⟨w90, jib_ok w91⟩, ⟨w90, jib_ok w92⟩, ⟨w90, jib_ok w93⟩, trivial⟩ ?_
      obtain ⟨t96, w95, H⟩ := jb_ok H
      refine jS.step (c' := (455, [(0, .inr (.inr y0)), (1, .inr (.inr y1)), (2, .inr (.inr y2)), (3, .inl y3)], [.inl t96.1, .inl t89.1], t96.2)) (jSt.callV (c := 10) (As := [.inl (jI t89.2 y0 (y3 + (1 : Int32)).toNatClampNeg), .inl (jI t89.2 y0 (y3 + (2 : Int32)).toNatClampNeg), .inl (jI t89.2 y0 (y3 + (3 : Int32)).toNatClampNeg)]) (rest := [.inl t89.1]) O (ec_X10_told (d := 74) O (Nat.le_refl _) w95) w94 (by decide) rfl (by omega) jmw_X10_told jmv_X10_told jmn_X10_told (idx := 39) (jW_of 1618 (by decide +kernel) rfl) (Nat.le_of_ble_eq_true rfl) (by decide +kernel)) ?_
      refine jS.br (i := .if_icmp .eq 1183) (P := t89.1 = t96.1) (rest := []) rfl (by decide +kernel) (tgt := 1638) (by decide) (fun c97 => ?_) (fun c97 => ?_)
      · replace H := jif_t c97 H
        refine jS.adv O [(.iinc 3 6, 0, 0, 0, 0, (6 : Int32), 0), (.goto (-1623), 0, 18, 0, 0, 0, 0)] (pc' := 18) (ls' := [(3, .inl (y3 + (6 : Int32))), (0, .inr (.inr y0)), (1, .inr (.inr y1)), (2, .inr (.inr y2))]) (st' := []) (m2 := t96.2) (by decide +kernel) rfl trivial ?_
        refine jS.loc' [1, 2, 3, 0] (ls' := [(0, .inr (.inr y0)), (1, .inr (.inr y1)), (2, .inr (.inr y2)), (3, .inl (y3 + (6 : Int32)))]) rfl ?_
        exact hB _ _ _ _ _ _ H h1 h2
      · replace H := jif_f c97 H
        refine jS.adv O [(.iconst 0, 0, 0, 0, 0, (0 : Int32), 0)] (pc' := 459) (ls' := [(0, .inr (.inr y0)), (1, .inr (.inr y1)), (2, .inr (.inr y2)), (3, .inl y3)]) (st' := [.inl (0 : Int32)]) (m2 := t96.2) (by decide +kernel) rfl trivial ?_
        replace H := Option.some.inj H
        subst H
        obtain ⟨q1, q2⟩ := h1 _ rfl
        subst q1; subst q2
        exact jS.zret rfl (Or.inl rfl) (by decide +kernel)
    replace H := jif_f c83 H
    by_cases c98 : ((jI m y0 y3.toNatClampNeg) &&& (63 : Int32)) = (6 : Int32)
    · replace H := jif_t c98 H
      refine jS.tswIn (dflt := 1605) (lo := 0) (hi := 40) (offs := #[179, 212, 275, 308, 341, 384, 427, 461, 494, 517, 540, 563, 576, 599, 633, 657, 671, 685, 748, 772, 805, 849, 893, 927, 950, 973, 1007, 1031, 1094, 1117, 1181, 1214, 1247, 1260, 1273, 1296, 1339, 1412, 1446, 1509, 1572]) (off := 427) c98 (len := 179) (tgt := 460) (by decide +kernel) (by decide) (by decide) rfl (by decide) ?_
      obtain ⟨w99, H⟩ := jgd_ok H
      obtain ⟨w100, H⟩ := jgd_ok H
      obtain ⟨w101, H⟩ := jgd_ok H
      refine jS.adv O [(.aload_n 1, 0, 0, 0, 0, 0, 0), (.aload_n 0, 0, 0, 0, 0, 0, 0), (.iload_n 3, 0, 0, 0, 0, 0, 0), (.iconst 1, 0, 0, 0, 0, (1 : Int32), 0), (.iadd, 0, 0, 0, 0, 0, 0), (.iaload, 0, 8, 0, 0, 0, 0), (.aload_n 0, 0, 0, 0, 0, 0, 0), (.iload_n 3, 0, 0, 0, 0, 0, 0), (.iconst 2, 0, 0, 0, 0, (2 : Int32), 0), (.iadd, 0, 0, 0, 0, 0, 0), (.iaload, 0, 8, 0, 0, 0, 0)] (pc' := 471) (ls' := [(0, .inr (.inr y0)), (1, .inr (.inr y1)), (2, .inr (.inr y2)), (3, .inl y3)]) (st' := [.inl (jI m y0 (y3 + (2 : Int32)).toNatClampNeg), .inl (jI m y0 (y3 + (1 : Int32)).toNatClampNeg), .inr (.inr y1)]) (m2 := m) (by decide +kernel) rfl ⟨⟨w7, jib_ok w99⟩, ⟨w7, jib_ok w100⟩, trivial⟩ ?_
      obtain ⟨t103, w102, H⟩ := jb_ok H
      refine jS.step (c' := (474, [(0, .inr (.inr y0)), (1, .inr (.inr y1)), (2, .inr (.inr y2)), (3, .inl y3)], [.inr (.inl t103)], m)) (jSt.callV (c := 9) (As := [.inl (jI m y0 (y3 + (1 : Int32)).toNatClampNeg), .inl (jI m y0 (y3 + (2 : Int32)).toNatClampNeg)]) (rest := []) O (ec_X9_worth (d := 4) O (Nat.le_refl _) w102) w101 (by decide) rfl (by omega) jmw_X9_worth jmv_X9_worth jmn_X9_worth (idx := 40) (jW_of 747 (by decide +kernel) rfl) (Nat.le_of_ble_eq_true rfl) (by decide +kernel)) ?_
      obtain ⟨w104, H⟩ := jgd_ok H
      obtain ⟨w105, H⟩ := jgd_ok H
      obtain ⟨w106, H⟩ := jgd_ok H
      refine jS.adv O [(.aload_n 2, 0, 0, 0, 0, 0, 0), (.aload_n 0, 0, 0, 0, 0, 0, 0), (.iload_n 3, 0, 0, 0, 0, 0, 0), (.iconst 1, 0, 0, 0, 0, (1 : Int32), 0), (.iadd, 0, 0, 0, 0, 0, 0), (.iaload, 0, 8, 0, 0, 0, 0), (.aload_n 0, 0, 0, 0, 0, 0, 0), (.iload_n 3, 0, 0, 0, 0, 0, 0), (.iconst 2, 0, 0, 0, 0, (2 : Int32), 0), (.iadd, 0, 0, 0, 0, 0, 0), (.iaload, 0, 8, 0, 0, 0, 0)] (pc' := 485) (ls' := [(0, .inr (.inr y0)), (1, .inr (.inr y1)), (2, .inr (.inr y2)), (3, .inl y3)]) (st' := [.inl (jI m y0 (y3 + (2 : Int32)).toNatClampNeg), .inl (jI m y0 (y3 + (1 : Int32)).toNatClampNeg), .inr (.inr y2), .inr (.inl t103)]) (m2 := m) (by decide +kernel) rfl ⟨⟨w7, jib_ok w104⟩, ⟨w7, jib_ok w105⟩, trivial⟩ ?_
      obtain ⟨t108, w107, H⟩ := jb_ok H
      refine jS.step (c' := (488, [(0, .inr (.inr y0)), (1, .inr (.inr y1)), (2, .inr (.inr y2)), (3, .inl y3)], [.inr (.inl t108), .inr (.inl t103)], m)) (jSt.callV (c := 10) (As := [.inl (jI m y0 (y3 + (1 : Int32)).toNatClampNeg), .inl (jI m y0 (y3 + (2 : Int32)).toNatClampNeg)]) (rest := [.inr (.inl t103)]) O (ec_X10_worth (d := 5) O (Nat.le_refl _) w107) w106 (by decide) rfl (by omega) jmw_X10_worth jmv_X10_worth jmn_X10_worth (idx := 44) (jW_of 1707 (by decide +kernel) rfl) (Nat.le_of_ble_eq_true rfl) (by decide +kernel)) ?_
      refine jS.adv O [(.lcmp, 0, 0, 0, 0, 0, 0)] (pc' := 489) (ls' := [(0, .inr (.inr y0)), (1, .inr (.inr y1)), (2, .inr (.inr y2)), (3, .inl y3)]) (st' := [.inl (lg_cmp t103 t108)]) (m2 := m) (by decide +kernel) rfl trivial ?_
      refine jS.br (i := .ifCond .eq 1149) (P := (lg_cmp t103 t108) = 0) (rest := []) rfl (by decide +kernel) (tgt := 1638) (by decide) (fun c109 => ?_) (fun c109 => ?_)
      · replace H := jif_t c109 H
        refine jS.adv O [(.iinc 3 6, 0, 0, 0, 0, (6 : Int32), 0), (.goto (-1623), 0, 18, 0, 0, 0, 0)] (pc' := 18) (ls' := [(3, .inl (y3 + (6 : Int32))), (0, .inr (.inr y0)), (1, .inr (.inr y1)), (2, .inr (.inr y2))]) (st' := []) (m2 := m) (by decide +kernel) rfl trivial ?_
        refine jS.loc' [1, 2, 3, 0] (ls' := [(0, .inr (.inr y0)), (1, .inr (.inr y1)), (2, .inr (.inr y2)), (3, .inl (y3 + (6 : Int32)))]) rfl ?_
        exact hB _ _ _ _ _ _ H h1 h2
      · replace H := jif_f c109 H
        refine jS.adv O [(.iconst 0, 0, 0, 0, 0, (0 : Int32), 0)] (pc' := 493) (ls' := [(0, .inr (.inr y0)), (1, .inr (.inr y1)), (2, .inr (.inr y2)), (3, .inl y3)]) (st' := [.inl (0 : Int32)]) (m2 := m) (by decide +kernel) rfl trivial ?_
        replace H := Option.some.inj H
        subst H
        obtain ⟨q1, q2⟩ := h1 _ rfl
        subst q1; subst q2
        exact jS.zret rfl (Or.inl rfl) (by decide +kernel)
    replace H := jif_f c98 H
    by_cases c110 : ((jI m y0 y3.toNatClampNeg) &&& (63 : Int32)) = (7 : Int32)
    · replace H := jif_t c110 H
      refine jS.tswIn (dflt := 1605) (lo := 0) (hi := 40) (offs := #[179, 212, 275, 308, 341, 384, 427, 461, 494, 517, 540, 563, 576, 599, 633, 657, 671, 685, 748, 772, 805, 849, 893, 927, 950, 973, 1007, 1031, 1094, 1117, 1181, 1214, 1247, 1260, 1273, 1296, 1339, 1412, 1446, 1509, 1572]) (off := 461) c110 (len := 179) (tgt := 494) (by decide +kernel) (by decide) (by decide) rfl (by decide) ?_
      obtain ⟨w111, H⟩ := jgd_ok H
      obtain ⟨w112, H⟩ := jgd_ok H
      obtain ⟨w113, H⟩ := jgd_ok H
      refine jS.adv O [(.aload_n 1, 0, 0, 0, 0, 0, 0), (.aload_n 0, 0, 0, 0, 0, 0, 0), (.iload_n 3, 0, 0, 0, 0, 0, 0), (.iconst 1, 0, 0, 0, 0, (1 : Int32), 0), (.iadd, 0, 0, 0, 0, 0, 0), (.iaload, 0, 8, 0, 0, 0, 0), (.aload_n 0, 0, 0, 0, 0, 0, 0), (.iload_n 3, 0, 0, 0, 0, 0, 0), (.iconst 2, 0, 0, 0, 0, (2 : Int32), 0), (.iadd, 0, 0, 0, 0, 0, 0), (.iaload, 0, 8, 0, 0, 0, 0)] (pc' := 505) (ls' := [(0, .inr (.inr y0)), (1, .inr (.inr y1)), (2, .inr (.inr y2)), (3, .inl y3)]) (st' := [.inl (jI m y0 (y3 + (2 : Int32)).toNatClampNeg), .inl (jI m y0 (y3 + (1 : Int32)).toNatClampNeg), .inr (.inr y1)]) (m2 := m) (by decide +kernel) rfl ⟨⟨w7, jib_ok w111⟩, ⟨w7, jib_ok w112⟩, trivial⟩ ?_
      obtain ⟨t115, w114, H⟩ := jb_ok H
      refine jS.step (c' := (508, [(0, .inr (.inr y0)), (1, .inr (.inr y1)), (2, .inr (.inr y2)), (3, .inl y3)], [.inl t115.1], t115.2)) (jSt.callV (c := 9) (As := [.inl (jI m y0 (y3 + (1 : Int32)).toNatClampNeg), .inl (jI m y0 (y3 + (2 : Int32)).toNatClampNeg)]) (rest := []) O (ec_X9_about (d := 8) O (Nat.le_refl _) w114) w113 (by decide) rfl (by omega) jmw_X9_about jmv_X9_about jmn_X9_about (idx := 45) (jW_of 758 (by decide +kernel) rfl) (Nat.le_of_ble_eq_true rfl) (by decide +kernel)) ?_
      obtain ⟨w116, H⟩ := jgd_ok H
      obtain ⟨w117, H⟩ := jgd_ok H
      obtain ⟨w118, H⟩ := jgd_ok H
      obtain ⟨w119, H⟩ := jgd_ok H
      refine jS.adv O [(.aload_n 2, 0, 0, 0, 0, 0, 0), (.aload_n 0, 0, 0, 0, 0, 0, 0), (.iload_n 3, 0, 0, 0, 0, 0, 0), (.iconst 1, 0, 0, 0, 0, (1 : Int32), 0), (.iadd, 0, 0, 0, 0, 0, 0), (.iaload, 0, 8, 0, 0, 0, 0), (.aload_n 0, 0, 0, 0, 0, 0, 0), (.iload_n 3, 0, 0, 0, 0, 0, 0), (.iconst 2, 0, 0, 0, 0, (2 : Int32), 0), (.iadd, 0, 0, 0, 0, 0, 0), (.iaload, 0, 8, 0, 0, 0, 0)] (pc' := 519) (ls' := [(0, .inr (.inr y0)), (1, .inr (.inr y1)), (2, .inr (.inr y2)), (3, .inl y3)]) (st' := [.inl (jI t115.2 y0 (y3 + (2 : Int32)).toNatClampNeg), .inl (jI t115.2 y0 (y3 + (1 : Int32)).toNatClampNeg), .inr (.inr y2), .inl t115.1]) (m2 := t115.2) (by decide +kernel) rfl ⟨⟨w116, jib_ok w117⟩, ⟨w116, jib_ok w118⟩, trivial⟩ ?_
      obtain ⟨t121, w120, H⟩ := jb_ok H
      refine jS.step (c' := (522, [(0, .inr (.inr y0)), (1, .inr (.inr y1)), (2, .inr (.inr y2)), (3, .inl y3)], [.inl t121.1, .inl t115.1], t121.2)) (jSt.callV (c := 10) (As := [.inl (jI t115.2 y0 (y3 + (1 : Int32)).toNatClampNeg), .inl (jI t115.2 y0 (y3 + (2 : Int32)).toNatClampNeg)]) (rest := [.inl t115.1]) O (ec_X10_about (d := 76) O (Nat.le_refl _) w120) w119 (by decide) rfl (by omega) jmw_X10_about jmv_X10_about jmn_X10_about (idx := 48) (jW_of 1734 (by decide +kernel) rfl) (Nat.le_of_ble_eq_true rfl) (by decide +kernel)) ?_
      refine jS.br (i := .if_icmp .eq 1116) (P := t115.1 = t121.1) (rest := []) rfl (by decide +kernel) (tgt := 1638) (by decide) (fun c122 => ?_) (fun c122 => ?_)
      · replace H := jif_t c122 H
        refine jS.adv O [(.iinc 3 6, 0, 0, 0, 0, (6 : Int32), 0), (.goto (-1623), 0, 18, 0, 0, 0, 0)] (pc' := 18) (ls' := [(3, .inl (y3 + (6 : Int32))), (0, .inr (.inr y0)), (1, .inr (.inr y1)), (2, .inr (.inr y2))]) (st' := []) (m2 := t121.2) (by decide +kernel) rfl trivial ?_
        refine jS.loc' [1, 2, 3, 0] (ls' := [(0, .inr (.inr y0)), (1, .inr (.inr y1)), (2, .inr (.inr y2)), (3, .inl (y3 + (6 : Int32)))]) rfl ?_
        exact hB _ _ _ _ _ _ H h1 h2
      · replace H := jif_f c122 H
        refine jS.adv O [(.iconst 0, 0, 0, 0, 0, (0 : Int32), 0)] (pc' := 526) (ls' := [(0, .inr (.inr y0)), (1, .inr (.inr y1)), (2, .inr (.inr y2)), (3, .inl y3)]) (st' := [.inl (0 : Int32)]) (m2 := t121.2) (by decide +kernel) rfl trivial ?_
        replace H := Option.some.inj H
        subst H
        obtain ⟨q1, q2⟩ := h1 _ rfl
        subst q1; subst q2
        exact jS.zret rfl (Or.inl rfl) (by decide +kernel)
    replace H := jif_f c110 H
    by_cases c123 : ((jI m y0 y3.toNatClampNeg) &&& (63 : Int32)) = (8 : Int32)
    · replace H := jif_t c123 H
      refine jS.tswIn (dflt := 1605) (lo := 0) (hi := 40) (offs := #[179, 212, 275, 308, 341, 384, 427, 461, 494, 517, 540, 563, 576, 599, 633, 657, 671, 685, 748, 772, 805, 849, 893, 927, 950, 973, 1007, 1031, 1094, 1117, 1181, 1214, 1247, 1260, 1273, 1296, 1339, 1412, 1446, 1509, 1572]) (off := 494) c123 (len := 179) (tgt := 527) (by decide +kernel) (by decide) (by decide) rfl (by decide) ?_
      obtain ⟨w124, H⟩ := jgd_ok H
      obtain ⟨w125, H⟩ := jgd_ok H
      refine jS.adv O [(.aload_n 1, 0, 0, 0, 0, 0, 0), (.aload_n 0, 0, 0, 0, 0, 0, 0), (.iload_n 3, 0, 0, 0, 0, 0, 0), (.iconst 1, 0, 0, 0, 0, (1 : Int32), 0), (.iadd, 0, 0, 0, 0, 0, 0), (.iaload, 0, 8, 0, 0, 0, 0)] (pc' := 533) (ls' := [(0, .inr (.inr y0)), (1, .inr (.inr y1)), (2, .inr (.inr y2)), (3, .inl y3)]) (st' := [.inl (jI m y0 (y3 + (1 : Int32)).toNatClampNeg), .inr (.inr y1)]) (m2 := m) (by decide +kernel) rfl ⟨⟨w7, jib_ok w124⟩, trivial⟩ ?_
      obtain ⟨t127, w126, H⟩ := jb_ok H
      refine jS.step (c' := (536, [(0, .inr (.inr y0)), (1, .inr (.inr y1)), (2, .inr (.inr y2)), (3, .inl y3)], [.inl t127.1], t127.2)) (jSt.callV (c := 9) (As := [.inl (jI m y0 (y3 + (1 : Int32)).toNatClampNeg)]) (rest := []) O (ec_X9_query (d := 3) O (Nat.le_refl _) w126) w125 (by decide) rfl (by omega) jmw_X9_query jmv_X9_query jmn_X9_query (idx := 49) (jW_of 845 (by decide +kernel) rfl) (Nat.le_of_ble_eq_true rfl) (by decide +kernel)) ?_
      obtain ⟨w128, H⟩ := jgd_ok H
      obtain ⟨w129, H⟩ := jgd_ok H
      obtain ⟨w130, H⟩ := jgd_ok H
      refine jS.adv O [(.aload_n 2, 0, 0, 0, 0, 0, 0), (.aload_n 0, 0, 0, 0, 0, 0, 0), (.iload_n 3, 0, 0, 0, 0, 0, 0), (.iconst 1, 0, 0, 0, 0, (1 : Int32), 0), (.iadd, 0, 0, 0, 0, 0, 0), (.iaload, 0, 8, 0, 0, 0, 0)] (pc' := 542) (ls' := [(0, .inr (.inr y0)), (1, .inr (.inr y1)), (2, .inr (.inr y2)), (3, .inl y3)]) (st' := [.inl (jI t127.2 y0 (y3 + (1 : Int32)).toNatClampNeg), .inr (.inr y2), .inl t127.1]) (m2 := t127.2) (by decide +kernel) rfl ⟨⟨w128, jib_ok w129⟩, trivial⟩ ?_
      obtain ⟨t132, w131, H⟩ := jb_ok H
      refine jS.step (c' := (545, [(0, .inr (.inr y0)), (1, .inr (.inr y1)), (2, .inr (.inr y2)), (3, .inl y3)], [.inl t132.1, .inl t127.1], t132.2)) (jSt.callV (c := 10) (As := [.inl (jI t127.2 y0 (y3 + (1 : Int32)).toNatClampNeg)]) (rest := [.inl t127.1]) O (ec_X10_query (d := 3) O (Nat.le_refl _) w131) w130 (by decide) rfl (by omega) jmw_X10_query jmv_X10_query jmn_X10_query (idx := 53) (jW_of 1730 (by decide +kernel) rfl) (Nat.le_of_ble_eq_true rfl) (by decide +kernel)) ?_
      refine jS.br (i := .if_icmp .eq 1093) (P := t127.1 = t132.1) (rest := []) rfl (by decide +kernel) (tgt := 1638) (by decide) (fun c133 => ?_) (fun c133 => ?_)
      · replace H := jif_t c133 H
        refine jS.adv O [(.iinc 3 6, 0, 0, 0, 0, (6 : Int32), 0), (.goto (-1623), 0, 18, 0, 0, 0, 0)] (pc' := 18) (ls' := [(3, .inl (y3 + (6 : Int32))), (0, .inr (.inr y0)), (1, .inr (.inr y1)), (2, .inr (.inr y2))]) (st' := []) (m2 := t132.2) (by decide +kernel) rfl trivial ?_
        refine jS.loc' [1, 2, 3, 0] (ls' := [(0, .inr (.inr y0)), (1, .inr (.inr y1)), (2, .inr (.inr y2)), (3, .inl (y3 + (6 : Int32)))]) rfl ?_
        exact hB _ _ _ _ _ _ H h1 h2
      · replace H := jif_f c133 H
        refine jS.adv O [(.iconst 0, 0, 0, 0, 0, (0 : Int32), 0)] (pc' := 549) (ls' := [(0, .inr (.inr y0)), (1, .inr (.inr y1)), (2, .inr (.inr y2)), (3, .inl y3)]) (st' := [.inl (0 : Int32)]) (m2 := t132.2) (by decide +kernel) rfl trivial ?_
        replace H := Option.some.inj H
        subst H
        obtain ⟨q1, q2⟩ := h1 _ rfl
        subst q1; subst q2
        exact jS.zret rfl (Or.inl rfl) (by decide +kernel)
    replace H := jif_f c123 H
    by_cases c134 : ((jI m y0 y3.toNatClampNeg) &&& (63 : Int32)) = (9 : Int32)
    · replace H := jif_t c134 H
      refine jS.tswIn (dflt := 1605) (lo := 0) (hi := 40) (offs := #[179, 212, 275, 308, 341, 384, 427, 461, 494, 517, 540, 563, 576, 599, 633, 657, 671, 685, 748, 772, 805, 849, 893, 927, 950, 973, 1007, 1031, 1094, 1117, 1181, 1214, 1247, 1260, 1273, 1296, 1339, 1412, 1446, 1509, 1572]) (off := 517) c134 (len := 179) (tgt := 550) (by decide +kernel) (by decide) (by decide) rfl (by decide) ?_
      obtain ⟨w135, H⟩ := jgd_ok H
      obtain ⟨w136, H⟩ := jgd_ok H
      refine jS.adv O [(.aload_n 1, 0, 0, 0, 0, 0, 0), (.aload_n 0, 0, 0, 0, 0, 0, 0), (.iload_n 3, 0, 0, 0, 0, 0, 0), (.iconst 1, 0, 0, 0, 0, (1 : Int32), 0), (.iadd, 0, 0, 0, 0, 0, 0), (.iaload, 0, 8, 0, 0, 0, 0)] (pc' := 556) (ls' := [(0, .inr (.inr y0)), (1, .inr (.inr y1)), (2, .inr (.inr y2)), (3, .inl y3)]) (st' := [.inl (jI m y0 (y3 + (1 : Int32)).toNatClampNeg), .inr (.inr y1)]) (m2 := m) (by decide +kernel) rfl ⟨⟨w7, jib_ok w135⟩, trivial⟩ ?_
      obtain ⟨t138, w137, H⟩ := jb_ok H
      refine jS.step (c' := (559, [(0, .inr (.inr y0)), (1, .inr (.inr y1)), (2, .inr (.inr y2)), (3, .inl y3)], [.inl t138.1], t138.2)) (jSt.callV (c := 9) (As := [.inl (jI m y0 (y3 + (1 : Int32)).toNatClampNeg)]) (rest := []) O (ec_X9_shape (d := 8) O (Nat.le_refl _) w137) w136 (by decide) rfl (by omega) jmw_X9_shape jmv_X9_shape jmn_X9_shape (idx := 54) (jW_of 853 (by decide +kernel) rfl) (Nat.le_of_ble_eq_true rfl) (by decide +kernel)) ?_
      obtain ⟨w139, H⟩ := jgd_ok H
      obtain ⟨w140, H⟩ := jgd_ok H
      obtain ⟨w141, H⟩ := jgd_ok H
      refine jS.adv O [(.aload_n 2, 0, 0, 0, 0, 0, 0), (.aload_n 0, 0, 0, 0, 0, 0, 0), (.iload_n 3, 0, 0, 0, 0, 0, 0), (.iconst 1, 0, 0, 0, 0, (1 : Int32), 0), (.iadd, 0, 0, 0, 0, 0, 0), (.iaload, 0, 8, 0, 0, 0, 0)] (pc' := 565) (ls' := [(0, .inr (.inr y0)), (1, .inr (.inr y1)), (2, .inr (.inr y2)), (3, .inl y3)]) (st' := [.inl (jI t138.2 y0 (y3 + (1 : Int32)).toNatClampNeg), .inr (.inr y2), .inl t138.1]) (m2 := t138.2) (by decide +kernel) rfl ⟨⟨w139, jib_ok w140⟩, trivial⟩ ?_
      obtain ⟨t143, w142, H⟩ := jb_ok H
      refine jS.step (c' := (568, [(0, .inr (.inr y0)), (1, .inr (.inr y1)), (2, .inr (.inr y2)), (3, .inl y3)], [.inl t143.1, .inl t138.1], t143.2)) (jSt.callV (c := 10) (As := [.inl (jI t138.2 y0 (y3 + (1 : Int32)).toNatClampNeg)]) (rest := [.inl t138.1]) O (ec_X10_shape (d := 76) O (Nat.le_refl _) w142) w141 (by decide) rfl (by omega) jmw_X10_shape jmv_X10_shape jmn_X10_shape (idx := 57) (jW_of 1796 (by decide +kernel) rfl) (Nat.le_of_ble_eq_true rfl) (by decide +kernel)) ?_
      refine jS.br (i := .if_icmp .eq 1070) (P := t138.1 = t143.1) (rest := []) rfl (by decide +kernel) (tgt := 1638) (by decide) (fun c144 => ?_) (fun c144 => ?_)
      · replace H := jif_t c144 H
        refine jS.adv O [(.iinc 3 6, 0, 0, 0, 0, (6 : Int32), 0), (.goto (-1623), 0, 18, 0, 0, 0, 0)] (pc' := 18) (ls' := [(3, .inl (y3 + (6 : Int32))), (0, .inr (.inr y0)), (1, .inr (.inr y1)), (2, .inr (.inr y2))]) (st' := []) (m2 := t143.2) (by decide +kernel) rfl trivial ?_
        refine jS.loc' [1, 2, 3, 0] (ls' := [(0, .inr (.inr y0)), (1, .inr (.inr y1)), (2, .inr (.inr y2)), (3, .inl (y3 + (6 : Int32)))]) rfl ?_
        exact hB _ _ _ _ _ _ H h1 h2
      · replace H := jif_f c144 H
        refine jS.adv O [(.iconst 0, 0, 0, 0, 0, (0 : Int32), 0)] (pc' := 572) (ls' := [(0, .inr (.inr y0)), (1, .inr (.inr y1)), (2, .inr (.inr y2)), (3, .inl y3)]) (st' := [.inl (0 : Int32)]) (m2 := t143.2) (by decide +kernel) rfl trivial ?_
        replace H := Option.some.inj H
        subst H
        obtain ⟨q1, q2⟩ := h1 _ rfl
        subst q1; subst q2
        exact jS.zret rfl (Or.inl rfl) (by decide +kernel)
    replace H := jif_f c134 H
    by_cases c145 : ((jI m y0 y3.toNatClampNeg) &&& (63 : Int32)) = (10 : Int32)
    · replace H := jif_t c145 H
      refine jS.tswIn (dflt := 1605) (lo := 0) (hi := 40) (offs := #[179, 212, 275, 308, 341, 384, 427, 461, 494, 517, 540, 563, 576, 599, 633, 657, 671, 685, 748, 772, 805, 849, 893, 927, 950, 973, 1007, 1031, 1094, 1117, 1181, 1214, 1247, 1260, 1273, 1296, 1339, 1412, 1446, 1509, 1572]) (off := 540) c145 (len := 179) (tgt := 573) (by decide +kernel) (by decide) (by decide) rfl (by decide) ?_
      obtain ⟨w146, H⟩ := jgd_ok H
      obtain ⟨w147, H⟩ := jgd_ok H
      refine jS.adv O [(.aload_n 1, 0, 0, 0, 0, 0, 0), (.aload_n 0, 0, 0, 0, 0, 0, 0), (.iload_n 3, 0, 0, 0, 0, 0, 0), (.iconst 1, 0, 0, 0, 0, (1 : Int32), 0), (.iadd, 0, 0, 0, 0, 0, 0), (.iaload, 0, 8, 0, 0, 0, 0)] (pc' := 579) (ls' := [(0, .inr (.inr y0)), (1, .inr (.inr y1)), (2, .inr (.inr y2)), (3, .inl y3)]) (st' := [.inl (jI m y0 (y3 + (1 : Int32)).toNatClampNeg), .inr (.inr y1)]) (m2 := m) (by decide +kernel) rfl ⟨⟨w7, jib_ok w146⟩, trivial⟩ ?_
      obtain ⟨t149, w148, H⟩ := jb_ok H
      refine jS.step (c' := (582, [(0, .inr (.inr y0)), (1, .inr (.inr y1)), (2, .inr (.inr y2)), (3, .inl y3)], [.inl t149.1], t149.2)) (jSt.callV (c := 9) (As := [.inl (jI m y0 (y3 + (1 : Int32)).toNatClampNeg)]) (rest := []) O (ec_X9_feed (d := 3) O (Nat.le_refl _) w148) w147 (by decide) rfl (by omega) jmw_X9_feed jmv_X9_feed jmn_X9_feed (idx := 58) (jW_of 861 (by decide +kernel) rfl) (Nat.le_of_ble_eq_true rfl) (by decide +kernel)) ?_
      obtain ⟨w150, H⟩ := jgd_ok H
      obtain ⟨w151, H⟩ := jgd_ok H
      obtain ⟨w152, H⟩ := jgd_ok H
      refine jS.adv O [(.aload_n 2, 0, 0, 0, 0, 0, 0), (.aload_n 0, 0, 0, 0, 0, 0, 0), (.iload_n 3, 0, 0, 0, 0, 0, 0), (.iconst 1, 0, 0, 0, 0, (1 : Int32), 0), (.iadd, 0, 0, 0, 0, 0, 0), (.iaload, 0, 8, 0, 0, 0, 0)] (pc' := 588) (ls' := [(0, .inr (.inr y0)), (1, .inr (.inr y1)), (2, .inr (.inr y2)), (3, .inl y3)]) (st' := [.inl (jI t149.2 y0 (y3 + (1 : Int32)).toNatClampNeg), .inr (.inr y2), .inl t149.1]) (m2 := t149.2) (by decide +kernel) rfl ⟨⟨w150, jib_ok w151⟩, trivial⟩ ?_
      obtain ⟨t154, w153, H⟩ := jb_ok H
      refine jS.step (c' := (591, [(0, .inr (.inr y0)), (1, .inr (.inr y1)), (2, .inr (.inr y2)), (3, .inl y3)], [.inl t154.1, .inl t149.1], t154.2)) (jSt.callV (c := 10) (As := [.inl (jI t149.2 y0 (y3 + (1 : Int32)).toNatClampNeg)]) (rest := [.inl t149.1]) O (ec_X10_feed (d := 3) O (Nat.le_refl _) w153) w152 (by decide) rfl (by omega) jmw_X10_feed jmv_X10_feed jmn_X10_feed (idx := 61) (jW_of 1717 (by decide +kernel) rfl) (Nat.le_of_ble_eq_true rfl) (by decide +kernel)) ?_
      refine jS.br (i := .if_icmp .eq 1047) (P := t149.1 = t154.1) (rest := []) rfl (by decide +kernel) (tgt := 1638) (by decide) (fun c155 => ?_) (fun c155 => ?_)
      · replace H := jif_t c155 H
        refine jS.adv O [(.iinc 3 6, 0, 0, 0, 0, (6 : Int32), 0), (.goto (-1623), 0, 18, 0, 0, 0, 0)] (pc' := 18) (ls' := [(3, .inl (y3 + (6 : Int32))), (0, .inr (.inr y0)), (1, .inr (.inr y1)), (2, .inr (.inr y2))]) (st' := []) (m2 := t154.2) (by decide +kernel) rfl trivial ?_
        refine jS.loc' [1, 2, 3, 0] (ls' := [(0, .inr (.inr y0)), (1, .inr (.inr y1)), (2, .inr (.inr y2)), (3, .inl (y3 + (6 : Int32)))]) rfl ?_
        exact hB _ _ _ _ _ _ H h1 h2
      · replace H := jif_f c155 H
        refine jS.adv O [(.iconst 0, 0, 0, 0, 0, (0 : Int32), 0)] (pc' := 595) (ls' := [(0, .inr (.inr y0)), (1, .inr (.inr y1)), (2, .inr (.inr y2)), (3, .inl y3)]) (st' := [.inl (0 : Int32)]) (m2 := t154.2) (by decide +kernel) rfl trivial ?_
        replace H := Option.some.inj H
        subst H
        obtain ⟨q1, q2⟩ := h1 _ rfl
        subst q1; subst q2
        exact jS.zret rfl (Or.inl rfl) (by decide +kernel)
    replace H := jif_f c145 H
    by_cases c156 : ((jI m y0 y3.toNatClampNeg) &&& (63 : Int32)) = (11 : Int32)
    · replace H := jif_t c156 H
      refine jS.tswIn (dflt := 1605) (lo := 0) (hi := 40) (offs := #[179, 212, 275, 308, 341, 384, 427, 461, 494, 517, 540, 563, 576, 599, 633, 657, 671, 685, 748, 772, 805, 849, 893, 927, 950, 973, 1007, 1031, 1094, 1117, 1181, 1214, 1247, 1260, 1273, 1296, 1339, 1412, 1446, 1509, 1572]) (off := 563) c156 (len := 179) (tgt := 596) (by decide +kernel) (by decide) (by decide) rfl (by decide) ?_
      obtain ⟨w157, H⟩ := jgd_ok H
      refine jS.adv O [(.aload_n 1, 0, 0, 0, 0, 0, 0)] (pc' := 597) (ls' := [(0, .inr (.inr y0)), (1, .inr (.inr y1)), (2, .inr (.inr y2)), (3, .inl y3)]) (st' := [.inr (.inr y1)]) (m2 := m) (by decide +kernel) rfl trivial ?_
      obtain ⟨t159, w158, H⟩ := jb_ok H
      refine jS.step (c' := (600, [(0, .inr (.inr y0)), (1, .inr (.inr y1)), (2, .inr (.inr y2)), (3, .inl y3)], [.inl t159.1], t159.2)) (jSt.callV (c := 9) (As := []) (rest := []) O (ec_X9_text (d := 77) O (Nat.le_refl _) w158) w157 (by decide) rfl (by omega) jmw_X9_text jmv_X9_text jmn_X9_text (idx := 62) (jW_of 869 (by decide +kernel) rfl) (Nat.le_of_ble_eq_true rfl) (by decide +kernel)) ?_
      obtain ⟨w160, H⟩ := jgd_ok H
      refine jS.adv O [(.aload_n 2, 0, 0, 0, 0, 0, 0)] (pc' := 601) (ls' := [(0, .inr (.inr y0)), (1, .inr (.inr y1)), (2, .inr (.inr y2)), (3, .inl y3)]) (st' := [.inr (.inr y2), .inl t159.1]) (m2 := t159.2) (by decide +kernel) rfl trivial ?_
      obtain ⟨t162, w161, H⟩ := jb_ok H
      refine jS.step (c' := (604, [(0, .inr (.inr y0)), (1, .inr (.inr y1)), (2, .inr (.inr y2)), (3, .inl y3)], [.inl t162.1, .inl t159.1], t162.2)) (jSt.callV (c := 10) (As := []) (rest := [.inl t159.1]) O (ec_X10_text (d := 73) O (Nat.le_refl _) w161) w160 (by decide) rfl (by omega) jmw_X10_text jmv_X10_text jmn_X10_text (idx := 66) (jW_of 1722 (by decide +kernel) rfl) (Nat.le_of_ble_eq_true rfl) (by decide +kernel)) ?_
      refine jS.br (i := .if_icmp .eq 1034) (P := t159.1 = t162.1) (rest := []) rfl (by decide +kernel) (tgt := 1638) (by decide) (fun c163 => ?_) (fun c163 => ?_)
      · replace H := jif_t c163 H
        refine jS.adv O [(.iinc 3 6, 0, 0, 0, 0, (6 : Int32), 0), (.goto (-1623), 0, 18, 0, 0, 0, 0)] (pc' := 18) (ls' := [(3, .inl (y3 + (6 : Int32))), (0, .inr (.inr y0)), (1, .inr (.inr y1)), (2, .inr (.inr y2))]) (st' := []) (m2 := t162.2) (by decide +kernel) rfl trivial ?_
        refine jS.loc' [1, 2, 3, 0] (ls' := [(0, .inr (.inr y0)), (1, .inr (.inr y1)), (2, .inr (.inr y2)), (3, .inl (y3 + (6 : Int32)))]) rfl ?_
        exact hB _ _ _ _ _ _ H h1 h2
      · replace H := jif_f c163 H
        refine jS.adv O [(.iconst 0, 0, 0, 0, 0, (0 : Int32), 0)] (pc' := 608) (ls' := [(0, .inr (.inr y0)), (1, .inr (.inr y1)), (2, .inr (.inr y2)), (3, .inl y3)]) (st' := [.inl (0 : Int32)]) (m2 := t162.2) (by decide +kernel) rfl trivial ?_
        replace H := Option.some.inj H
        subst H
        obtain ⟨q1, q2⟩ := h1 _ rfl
        subst q1; subst q2
        exact jS.zret rfl (Or.inl rfl) (by decide +kernel)
    replace H := jif_f c156 H
    by_cases c164 : ((jI m y0 y3.toNatClampNeg) &&& (63 : Int32)) = (12 : Int32)
    · replace H := jif_t c164 H
      refine jS.tswIn (dflt := 1605) (lo := 0) (hi := 40) (offs := #[179, 212, 275, 308, 341, 384, 427, 461, 494, 517, 540, 563, 576, 599, 633, 657, 671, 685, 748, 772, 805, 849, 893, 927, 950, 973, 1007, 1031, 1094, 1117, 1181, 1214, 1247, 1260, 1273, 1296, 1339, 1412, 1446, 1509, 1572]) (off := 576) c164 (len := 179) (tgt := 609) (by decide +kernel) (by decide) (by decide) rfl (by decide) ?_
      obtain ⟨w165, H⟩ := jgd_ok H
      obtain ⟨w166, H⟩ := jgd_ok H
      refine jS.adv O [(.aload_n 1, 0, 0, 0, 0, 0, 0), (.aload_n 0, 0, 0, 0, 0, 0, 0), (.iload_n 3, 0, 0, 0, 0, 0, 0), (.iconst 1, 0, 0, 0, 0, (1 : Int32), 0), (.iadd, 0, 0, 0, 0, 0, 0), (.iaload, 0, 8, 0, 0, 0, 0)] (pc' := 615) (ls' := [(0, .inr (.inr y0)), (1, .inr (.inr y1)), (2, .inr (.inr y2)), (3, .inl y3)]) (st' := [.inl (jI m y0 (y3 + (1 : Int32)).toNatClampNeg), .inr (.inr y1)]) (m2 := m) (by decide +kernel) rfl ⟨⟨w7, jib_ok w165⟩, trivial⟩ ?_
      obtain ⟨t168, w167, H⟩ := jb_ok H
      refine jS.step (c' := (618, [(0, .inr (.inr y0)), (1, .inr (.inr y1)), (2, .inr (.inr y2)), (3, .inl y3)], [.inl t168.1], t168.2)) (jSt.callV (c := 9) (As := [.inl (jI m y0 (y3 + (1 : Int32)).toNatClampNeg)]) (rest := []) O (ec_X9_force (d := 2) O (Nat.le_refl _) w167) w166 (by decide) rfl (by omega) jmw_X9_force jmv_X9_force jmn_X9_force (idx := 67) (jW_of 1068 (by decide +kernel) rfl) (Nat.le_of_ble_eq_true rfl) (by decide +kernel)) ?_
      obtain ⟨w169, H⟩ := jgd_ok H
      obtain ⟨w170, H⟩ := jgd_ok H
      obtain ⟨w171, H⟩ := jgd_ok H
      refine jS.adv O [(.aload_n 2, 0, 0, 0, 0, 0, 0), (.aload_n 0, 0, 0, 0, 0, 0, 0), (.iload_n 3, 0, 0, 0, 0, 0, 0), (.iconst 1, 0, 0, 0, 0, (1 : Int32), 0), (.iadd, 0, 0, 0, 0, 0, 0), (.iaload, 0, 8, 0, 0, 0, 0)] (pc' := 624) (ls' := [(0, .inr (.inr y0)), (1, .inr (.inr y1)), (2, .inr (.inr y2)), (3, .inl y3)]) (st' := [.inl (jI t168.2 y0 (y3 + (1 : Int32)).toNatClampNeg), .inr (.inr y2), .inl t168.1]) (m2 := t168.2) (by decide +kernel) rfl ⟨⟨w169, jib_ok w170⟩, trivial⟩ ?_
      obtain ⟨t173, w172, H⟩ := jb_ok H
      refine jS.step (c' := (627, [(0, .inr (.inr y0)), (1, .inr (.inr y1)), (2, .inr (.inr y2)), (3, .inl y3)], [.inl t173.1, .inl t168.1], t173.2)) (jSt.callV (c := 10) (As := [.inl (jI t168.2 y0 (y3 + (1 : Int32)).toNatClampNeg)]) (rest := [.inl t168.1]) O (ec_X10_force (d := 3) O (Nat.le_refl _) w172) w171 (by decide) rfl (by omega) jmw_X10_force jmv_X10_force jmn_X10_force (idx := 70) (jW_of 1726 (by decide +kernel) rfl) (Nat.le_of_ble_eq_true rfl) (by decide +kernel)) ?_
      refine jS.br (i := .if_icmp .eq 1011) (P := t168.1 = t173.1) (rest := []) rfl (by decide +kernel) (tgt := 1638) (by decide) (fun c174 => ?_) (fun c174 => ?_)
      · replace H := jif_t c174 H
        refine jS.adv O [(.iinc 3 6, 0, 0, 0, 0, (6 : Int32), 0), (.goto (-1623), 0, 18, 0, 0, 0, 0)] (pc' := 18) (ls' := [(3, .inl (y3 + (6 : Int32))), (0, .inr (.inr y0)), (1, .inr (.inr y1)), (2, .inr (.inr y2))]) (st' := []) (m2 := t173.2) (by decide +kernel) rfl trivial ?_
        refine jS.loc' [1, 2, 3, 0] (ls' := [(0, .inr (.inr y0)), (1, .inr (.inr y1)), (2, .inr (.inr y2)), (3, .inl (y3 + (6 : Int32)))]) rfl ?_
        exact hB _ _ _ _ _ _ H h1 h2
      · replace H := jif_f c174 H
        refine jS.adv O [(.iconst 0, 0, 0, 0, 0, (0 : Int32), 0)] (pc' := 631) (ls' := [(0, .inr (.inr y0)), (1, .inr (.inr y1)), (2, .inr (.inr y2)), (3, .inl y3)]) (st' := [.inl (0 : Int32)]) (m2 := t173.2) (by decide +kernel) rfl trivial ?_
        replace H := Option.some.inj H
        subst H
        obtain ⟨q1, q2⟩ := h1 _ rfl
        subst q1; subst q2
        exact jS.zret rfl (Or.inl rfl) (by decide +kernel)
    replace H := jif_f c164 H
    by_cases c175 : ((jI m y0 y3.toNatClampNeg) &&& (63 : Int32)) = (13 : Int32)
    · replace H := jif_t c175 H
      refine jS.tswIn (dflt := 1605) (lo := 0) (hi := 40) (offs := #[179, 212, 275, 308, 341, 384, 427, 461, 494, 517, 540, 563, 576, 599, 633, 657, 671, 685, 748, 772, 805, 849, 893, 927, 950, 973, 1007, 1031, 1094, 1117, 1181, 1214, 1247, 1260, 1273, 1296, 1339, 1412, 1446, 1509, 1572]) (off := 599) c175 (len := 179) (tgt := 632) (by decide +kernel) (by decide) (by decide) rfl (by decide) ?_
      obtain ⟨w176, H⟩ := jgd_ok H
      obtain ⟨w177, H⟩ := jgd_ok H
      obtain ⟨w178, H⟩ := jgd_ok H
      refine jS.adv O [(.aload_n 1, 0, 0, 0, 0, 0, 0), (.aload_n 0, 0, 0, 0, 0, 0, 0), (.iload_n 3, 0, 0, 0, 0, 0, 0), (.iconst 1, 0, 0, 0, 0, (1 : Int32), 0), (.iadd, 0, 0, 0, 0, 0, 0), (.iaload, 0, 8, 0, 0, 0, 0), (.aload_n 0, 0, 0, 0, 0, 0, 0), (.iload_n 3, 0, 0, 0, 0, 0, 0), (.iconst 2, 0, 0, 0, 0, (2 : Int32), 0), (.iadd, 0, 0, 0, 0, 0, 0), (.iaload, 0, 8, 0, 0, 0, 0)] (pc' := 643) (ls' := [(0, .inr (.inr y0)), (1, .inr (.inr y1)), (2, .inr (.inr y2)), (3, .inl y3)]) (st' := [.inl (jI m y0 (y3 + (2 : Int32)).toNatClampNeg), .inl (jI m y0 (y3 + (1 : Int32)).toNatClampNeg), .inr (.inr y1)]) (m2 := m) (by decide +kernel) rfl ⟨⟨w7, jib_ok w176⟩, ⟨w7, jib_ok w177⟩, trivial⟩ ?_
      obtain ⟨t180, w179, H⟩ := jb_ok H
      refine jS.step (c' := (646, [(0, .inr (.inr y0)), (1, .inr (.inr y1)), (2, .inr (.inr y2)), (3, .inl y3)], [.inr (.inl t180.1)], t180.2)) (jSt.callV (c := 9) (As := [.inl (jI m y0 (y3 + (1 : Int32)).toNatClampNeg), .inl (jI m y0 (y3 + (2 : Int32)).toNatClampNeg)]) (rest := []) O (ec_X9_weight (d := 8) O (Nat.le_refl _) w179) w178 (by decide) rfl (by omega) jmw_X9_weight jmv_X9_weight jmn_X9_weight (idx := 71) (jW_of 1072 (by decide +kernel) rfl) (Nat.le_of_ble_eq_true rfl) (by decide +kernel)) ?_
      obtain ⟨w181, H⟩ := jgd_ok H
      obtain ⟨w182, H⟩ := jgd_ok H
      obtain ⟨w183, H⟩ := jgd_ok H
      obtain ⟨w184, H⟩ := jgd_ok H
      refine jS.adv O [(.aload_n 2, 0, 0, 0, 0, 0, 0), (.aload_n 0, 0, 0, 0, 0, 0, 0), (.iload_n 3, 0, 0, 0, 0, 0, 0), (.iconst 1, 0, 0, 0, 0, (1 : Int32), 0), (.iadd, 0, 0, 0, 0, 0, 0), (.iaload, 0, 8, 0, 0, 0, 0), (.aload_n 0, 0, 0, 0, 0, 0, 0), (.iload_n 3, 0, 0, 0, 0, 0, 0), (.iconst 2, 0, 0, 0, 0, (2 : Int32), 0), (.iadd, 0, 0, 0, 0, 0, 0), (.iaload, 0, 8, 0, 0, 0, 0)] (pc' := 657) (ls' := [(0, .inr (.inr y0)), (1, .inr (.inr y1)), (2, .inr (.inr y2)), (3, .inl y3)]) (st' := [.inl (jI t180.2 y0 (y3 + (2 : Int32)).toNatClampNeg), .inl (jI t180.2 y0 (y3 + (1 : Int32)).toNatClampNeg), .inr (.inr y2), .inr (.inl t180.1)]) (m2 := t180.2) (by decide +kernel) rfl ⟨⟨w181, jib_ok w182⟩, ⟨w181, jib_ok w183⟩, trivial⟩ ?_
      obtain ⟨t186, w185, H⟩ := jb_ok H
      refine jS.step (c' := (660, [(0, .inr (.inr y0)), (1, .inr (.inr y1)), (2, .inr (.inr y2)), (3, .inl y3)], [.inr (.inl t186.1), .inr (.inl t180.1)], t186.2)) (jSt.callV (c := 10) (As := [.inl (jI t180.2 y0 (y3 + (1 : Int32)).toNatClampNeg), .inl (jI t180.2 y0 (y3 + (2 : Int32)).toNatClampNeg)]) (rest := [.inr (.inl t180.1)]) O (ec_X10_weight (d := 77) O (Nat.le_refl _) w185) w184 (by decide) rfl (by omega) jmw_X10_weight jmv_X10_weight jmn_X10_weight (idx := 74) (jW_of 1804 (by decide +kernel) rfl) (Nat.le_of_ble_eq_true rfl) (by decide +kernel)) ?_
      refine jS.adv O [(.lcmp, 0, 0, 0, 0, 0, 0)] (pc' := 661) (ls' := [(0, .inr (.inr y0)), (1, .inr (.inr y1)), (2, .inr (.inr y2)), (3, .inl y3)]) (st' := [.inl (lg_cmp t180.1 t186.1)]) (m2 := t186.2) (by decide +kernel) rfl trivial ?_
      refine jS.br (i := .ifCond .eq 977) (P := (lg_cmp t180.1 t186.1) = 0) (rest := []) rfl (by decide +kernel) (tgt := 1638) (by decide) (fun c187 => ?_) (fun c187 => ?_)
      · replace H := jif_t c187 H
        refine jS.adv O [(.iinc 3 6, 0, 0, 0, 0, (6 : Int32), 0), (.goto (-1623), 0, 18, 0, 0, 0, 0)] (pc' := 18) (ls' := [(3, .inl (y3 + (6 : Int32))), (0, .inr (.inr y0)), (1, .inr (.inr y1)), (2, .inr (.inr y2))]) (st' := []) (m2 := t186.2) (by decide +kernel) rfl trivial ?_
        refine jS.loc' [1, 2, 3, 0] (ls' := [(0, .inr (.inr y0)), (1, .inr (.inr y1)), (2, .inr (.inr y2)), (3, .inl (y3 + (6 : Int32)))]) rfl ?_
        exact hB _ _ _ _ _ _ H h1 h2
      · replace H := jif_f c187 H
        refine jS.adv O [(.iconst 0, 0, 0, 0, 0, (0 : Int32), 0)] (pc' := 665) (ls' := [(0, .inr (.inr y0)), (1, .inr (.inr y1)), (2, .inr (.inr y2)), (3, .inl y3)]) (st' := [.inl (0 : Int32)]) (m2 := t186.2) (by decide +kernel) rfl trivial ?_
        replace H := Option.some.inj H
        subst H
        obtain ⟨q1, q2⟩ := h1 _ rfl
        subst q1; subst q2
        exact jS.zret rfl (Or.inl rfl) (by decide +kernel)
    replace H := jif_f c175 H
    by_cases c188 : ((jI m y0 y3.toNatClampNeg) &&& (63 : Int32)) = (14 : Int32)
    · replace H := jif_t c188 H
      refine jS.tswIn (dflt := 1605) (lo := 0) (hi := 40) (offs := #[179, 212, 275, 308, 341, 384, 427, 461, 494, 517, 540, 563, 576, 599, 633, 657, 671, 685, 748, 772, 805, 849, 893, 927, 950, 973, 1007, 1031, 1094, 1117, 1181, 1214, 1247, 1260, 1273, 1296, 1339, 1412, 1446, 1509, 1572]) (off := 633) c188 (len := 179) (tgt := 666) (by decide +kernel) (by decide) (by decide) rfl (by decide) ?_
      obtain ⟨w189, H⟩ := jgd_ok H
      obtain ⟨w190, H⟩ := jgd_ok H
      refine jS.adv O [(.aload_n 1, 0, 0, 0, 0, 0, 0), (.aload_n 0, 0, 0, 0, 0, 0, 0), (.iload_n 3, 0, 0, 0, 0, 0, 0), (.iconst 1, 0, 0, 0, 0, (1 : Int32), 0), (.iadd, 0, 0, 0, 0, 0, 0), (.iaload, 0, 8, 0, 0, 0, 0)] (pc' := 672) (ls' := [(0, .inr (.inr y0)), (1, .inr (.inr y1)), (2, .inr (.inr y2)), (3, .inl y3)]) (st' := [.inl (jI m y0 (y3 + (1 : Int32)).toNatClampNeg), .inr (.inr y1)]) (m2 := m) (by decide +kernel) rfl ⟨⟨w7, jib_ok w189⟩, trivial⟩ ?_
      obtain ⟨t192, w191, H⟩ := jb_ok H
      refine jS.step (c' := (675, [(0, .inr (.inr y0)), (1, .inr (.inr y1)), (2, .inr (.inr y2)), (3, .inl y3)], [.inr (.inl t192.1)], t192.2)) (jSt.callV (c := 9) (As := [.inl (jI m y0 (y3 + (1 : Int32)).toNatClampNeg)]) (rest := []) O (ec_X9_bound (d := 8) O (Nat.le_refl _) w191) w190 (by decide) rfl (by omega) jmw_X9_bound jmv_X9_bound jmn_X9_bound (idx := 75) (jW_of 1080 (by decide +kernel) rfl) (Nat.le_of_ble_eq_true rfl) (by decide +kernel)) ?_
      obtain ⟨w193, H⟩ := jgd_ok H
      obtain ⟨w194, H⟩ := jgd_ok H
      obtain ⟨w195, H⟩ := jgd_ok H
      refine jS.adv O [(.aload_n 2, 0, 0, 0, 0, 0, 0), (.aload_n 0, 0, 0, 0, 0, 0, 0), (.iload_n 3, 0, 0, 0, 0, 0, 0), (.iconst 1, 0, 0, 0, 0, (1 : Int32), 0), (.iadd, 0, 0, 0, 0, 0, 0), (.iaload, 0, 8, 0, 0, 0, 0)] (pc' := 681) (ls' := [(0, .inr (.inr y0)), (1, .inr (.inr y1)), (2, .inr (.inr y2)), (3, .inl y3)]) (st' := [.inl (jI t192.2 y0 (y3 + (1 : Int32)).toNatClampNeg), .inr (.inr y2), .inr (.inl t192.1)]) (m2 := t192.2) (by decide +kernel) rfl ⟨⟨w193, jib_ok w194⟩, trivial⟩ ?_
      obtain ⟨t197, w196, H⟩ := jb_ok H
      refine jS.step (c' := (684, [(0, .inr (.inr y0)), (1, .inr (.inr y1)), (2, .inr (.inr y2)), (3, .inl y3)], [.inr (.inl t197.1), .inr (.inl t192.1)], t197.2)) (jSt.callV (c := 10) (As := [.inl (jI t192.2 y0 (y3 + (1 : Int32)).toNatClampNeg)]) (rest := [.inr (.inl t192.1)]) O (ec_X10_bound (d := 77) O (Nat.le_refl _) w196) w195 (by decide) rfl (by omega) jmw_X10_bound jmv_X10_bound jmn_X10_bound (idx := 79) (jW_of 1812 (by decide +kernel) rfl) (Nat.le_of_ble_eq_true rfl) (by decide +kernel)) ?_
      refine jS.adv O [(.lcmp, 0, 0, 0, 0, 0, 0)] (pc' := 685) (ls' := [(0, .inr (.inr y0)), (1, .inr (.inr y1)), (2, .inr (.inr y2)), (3, .inl y3)]) (st' := [.inl (lg_cmp t192.1 t197.1)]) (m2 := t197.2) (by decide +kernel) rfl trivial ?_
      refine jS.br (i := .ifCond .eq 953) (P := (lg_cmp t192.1 t197.1) = 0) (rest := []) rfl (by decide +kernel) (tgt := 1638) (by decide) (fun c198 => ?_) (fun c198 => ?_)
      · replace H := jif_t c198 H
        refine jS.adv O [(.iinc 3 6, 0, 0, 0, 0, (6 : Int32), 0), (.goto (-1623), 0, 18, 0, 0, 0, 0)] (pc' := 18) (ls' := [(3, .inl (y3 + (6 : Int32))), (0, .inr (.inr y0)), (1, .inr (.inr y1)), (2, .inr (.inr y2))]) (st' := []) (m2 := t197.2) (by decide +kernel) rfl trivial ?_
        refine jS.loc' [1, 2, 3, 0] (ls' := [(0, .inr (.inr y0)), (1, .inr (.inr y1)), (2, .inr (.inr y2)), (3, .inl (y3 + (6 : Int32)))]) rfl ?_
        exact hB _ _ _ _ _ _ H h1 h2
      · replace H := jif_f c198 H
        refine jS.adv O [(.iconst 0, 0, 0, 0, 0, (0 : Int32), 0)] (pc' := 689) (ls' := [(0, .inr (.inr y0)), (1, .inr (.inr y1)), (2, .inr (.inr y2)), (3, .inl y3)]) (st' := [.inl (0 : Int32)]) (m2 := t197.2) (by decide +kernel) rfl trivial ?_
        replace H := Option.some.inj H
        subst H
        obtain ⟨q1, q2⟩ := h1 _ rfl
        subst q1; subst q2
        exact jS.zret rfl (Or.inl rfl) (by decide +kernel)
    replace H := jif_f c188 H
    by_cases c199 : ((jI m y0 y3.toNatClampNeg) &&& (63 : Int32)) = (15 : Int32)
    · replace H := jif_t c199 H
      refine jS.tswIn (dflt := 1605) (lo := 0) (hi := 40) (offs := #[179, 212, 275, 308, 341, 384, 427, 461, 494, 517, 540, 563, 576, 599, 633, 657, 671, 685, 748, 772, 805, 849, 893, 927, 950, 973, 1007, 1031, 1094, 1117, 1181, 1214, 1247, 1260, 1273, 1296, 1339, 1412, 1446, 1509, 1572]) (off := 657) c199 (len := 179) (tgt := 690) (by decide +kernel) (by decide) (by decide) rfl (by decide) ?_
      obtain ⟨w200, H⟩ := jgd_ok H
      refine jS.adv O [(.aload_n 1, 0, 0, 0, 0, 0, 0)] (pc' := 691) (ls' := [(0, .inr (.inr y0)), (1, .inr (.inr y1)), (2, .inr (.inr y2)), (3, .inl y3)]) (st' := [.inr (.inr y1)]) (m2 := m) (by decide +kernel) rfl trivial ?_
      obtain ⟨t202, w201, H⟩ := jb_ok H
      refine jS.step (c' := (694, [(0, .inr (.inr y0)), (1, .inr (.inr y1)), (2, .inr (.inr y2)), (3, .inl y3)], [.inr (.inl t202.1)], t202.2)) (jSt.callV (c := 9) (As := []) (rest := []) O (ec_X9_space (d := 8) O (Nat.le_refl _) w201) w200 (by decide) rfl (by omega) jmw_X9_space jmv_X9_space jmn_X9_space (idx := 80) (jW_of 1084 (by decide +kernel) rfl) (Nat.le_of_ble_eq_true rfl) (by decide +kernel)) ?_
      obtain ⟨w203, H⟩ := jgd_ok H
      refine jS.adv O [(.aload_n 2, 0, 0, 0, 0, 0, 0)] (pc' := 695) (ls' := [(0, .inr (.inr y0)), (1, .inr (.inr y1)), (2, .inr (.inr y2)), (3, .inl y3)]) (st' := [.inr (.inr y2), .inr (.inl t202.1)]) (m2 := t202.2) (by decide +kernel) rfl trivial ?_
      obtain ⟨t205, w204, H⟩ := jb_ok H
      refine jS.step (c' := (698, [(0, .inr (.inr y0)), (1, .inr (.inr y1)), (2, .inr (.inr y2)), (3, .inl y3)], [.inr (.inl t205.1), .inr (.inl t202.1)], t205.2)) (jSt.callV (c := 10) (As := []) (rest := [.inr (.inl t202.1)]) O (ec_X10_space (d := 77) O (Nat.le_refl _) w204) w203 (by decide) rfl (by omega) jmw_X10_space jmv_X10_space jmn_X10_space (idx := 84) (jW_of 1816 (by decide +kernel) rfl) (Nat.le_of_ble_eq_true rfl) (by decide +kernel)) ?_
      refine jS.adv O [(.lcmp, 0, 0, 0, 0, 0, 0)] (pc' := 699) (ls' := [(0, .inr (.inr y0)), (1, .inr (.inr y1)), (2, .inr (.inr y2)), (3, .inl y3)]) (st' := [.inl (lg_cmp t202.1 t205.1)]) (m2 := t205.2) (by decide +kernel) rfl trivial ?_
      refine jS.br (i := .ifCond .eq 939) (P := (lg_cmp t202.1 t205.1) = 0) (rest := []) rfl (by decide +kernel) (tgt := 1638) (by decide) (fun c206 => ?_) (fun c206 => ?_)
      · replace H := jif_t c206 H
        refine jS.adv O [(.iinc 3 6, 0, 0, 0, 0, (6 : Int32), 0), (.goto (-1623), 0, 18, 0, 0, 0, 0)] (pc' := 18) (ls' := [(3, .inl (y3 + (6 : Int32))), (0, .inr (.inr y0)), (1, .inr (.inr y1)), (2, .inr (.inr y2))]) (st' := []) (m2 := t205.2) (by decide +kernel) rfl trivial ?_
        refine jS.loc' [1, 2, 3, 0] (ls' := [(0, .inr (.inr y0)), (1, .inr (.inr y1)), (2, .inr (.inr y2)), (3, .inl (y3 + (6 : Int32)))]) rfl ?_
        exact hB _ _ _ _ _ _ H h1 h2
      · replace H := jif_f c206 H
        refine jS.adv O [(.iconst 0, 0, 0, 0, 0, (0 : Int32), 0)] (pc' := 703) (ls' := [(0, .inr (.inr y0)), (1, .inr (.inr y1)), (2, .inr (.inr y2)), (3, .inl y3)]) (st' := [.inl (0 : Int32)]) (m2 := t205.2) (by decide +kernel) rfl trivial ?_
        replace H := Option.some.inj H
        subst H
        obtain ⟨q1, q2⟩ := h1 _ rfl
        subst q1; subst q2
        exact jS.zret rfl (Or.inl rfl) (by decide +kernel)
    replace H := jif_f c199 H
    by_cases c207 : ((jI m y0 y3.toNatClampNeg) &&& (63 : Int32)) = (16 : Int32)
    · replace H := jif_t c207 H
      refine jS.tswIn (dflt := 1605) (lo := 0) (hi := 40) (offs := #[179, 212, 275, 308, 341, 384, 427, 461, 494, 517, 540, 563, 576, 599, 633, 657, 671, 685, 748, 772, 805, 849, 893, 927, 950, 973, 1007, 1031, 1094, 1117, 1181, 1214, 1247, 1260, 1273, 1296, 1339, 1412, 1446, 1509, 1572]) (off := 671) c207 (len := 179) (tgt := 704) (by decide +kernel) (by decide) (by decide) rfl (by decide) ?_
      obtain ⟨w208, H⟩ := jgd_ok H
      refine jS.adv O [(.aload_n 1, 0, 0, 0, 0, 0, 0)] (pc' := 705) (ls' := [(0, .inr (.inr y0)), (1, .inr (.inr y1)), (2, .inr (.inr y2)), (3, .inl y3)]) (st' := [.inr (.inr y1)]) (m2 := m) (by decide +kernel) rfl trivial ?_
      obtain ⟨t210, w209, H⟩ := jb_ok H
      refine jS.step (c' := (708, [(0, .inr (.inr y0)), (1, .inr (.inr y1)), (2, .inr (.inr y2)), (3, .inl y3)], [.inr (.inl t210.1)], t210.2)) (jSt.callV (c := 9) (As := []) (rest := []) O (ec_X9_answers (d := 69) O (Nat.le_refl _) w209) w208 (by decide) rfl (by omega) jmw_X9_answers jmv_X9_answers jmn_X9_answers (idx := 85) (jW_of 1088 (by decide +kernel) rfl) (Nat.le_of_ble_eq_true rfl) (by decide +kernel)) ?_
      obtain ⟨w211, H⟩ := jgd_ok H
      refine jS.adv O [(.aload_n 2, 0, 0, 0, 0, 0, 0)] (pc' := 709) (ls' := [(0, .inr (.inr y0)), (1, .inr (.inr y1)), (2, .inr (.inr y2)), (3, .inl y3)]) (st' := [.inr (.inr y2), .inr (.inl t210.1)]) (m2 := t210.2) (by decide +kernel) rfl trivial ?_
      obtain ⟨t213, w212, H⟩ := jb_ok H
      refine jS.step (c' := (712, [(0, .inr (.inr y0)), (1, .inr (.inr y1)), (2, .inr (.inr y2)), (3, .inl y3)], [.inr (.inl t213.1), .inr (.inl t210.1)], t213.2)) (jSt.callV (c := 10) (As := []) (rest := [.inr (.inl t210.1)]) O (ec_X10_answers (d := 77) O (Nat.le_refl _) w212) w211 (by decide) rfl (by omega) jmw_X10_answers jmv_X10_answers jmn_X10_answers (idx := 88) (jW_of 1820 (by decide +kernel) rfl) (Nat.le_of_ble_eq_true rfl) (by decide +kernel)) ?_
      refine jS.adv O [(.lcmp, 0, 0, 0, 0, 0, 0)] (pc' := 713) (ls' := [(0, .inr (.inr y0)), (1, .inr (.inr y1)), (2, .inr (.inr y2)), (3, .inl y3)]) (st' := [.inl (lg_cmp t210.1 t213.1)]) (m2 := t213.2) (by decide +kernel) rfl trivial ?_
      refine jS.br (i := .ifCond .eq 925) (P := (lg_cmp t210.1 t213.1) = 0) (rest := []) rfl (by decide +kernel) (tgt := 1638) (by decide) (fun c214 => ?_) (fun c214 => ?_)
      · replace H := jif_t c214 H
        refine jS.adv O [(.iinc 3 6, 0, 0, 0, 0, (6 : Int32), 0), (.goto (-1623), 0, 18, 0, 0, 0, 0)] (pc' := 18) (ls' := [(3, .inl (y3 + (6 : Int32))), (0, .inr (.inr y0)), (1, .inr (.inr y1)), (2, .inr (.inr y2))]) (st' := []) (m2 := t213.2) (by decide +kernel) rfl trivial ?_
        refine jS.loc' [1, 2, 3, 0] (ls' := [(0, .inr (.inr y0)), (1, .inr (.inr y1)), (2, .inr (.inr y2)), (3, .inl (y3 + (6 : Int32)))]) rfl ?_
        exact hB _ _ _ _ _ _ H h1 h2
      · replace H := jif_f c214 H
        refine jS.adv O [(.iconst 0, 0, 0, 0, 0, (0 : Int32), 0)] (pc' := 717) (ls' := [(0, .inr (.inr y0)), (1, .inr (.inr y1)), (2, .inr (.inr y2)), (3, .inl y3)]) (st' := [.inl (0 : Int32)]) (m2 := t213.2) (by decide +kernel) rfl trivial ?_
        replace H := Option.some.inj H
        subst H
        obtain ⟨q1, q2⟩ := h1 _ rfl
        subst q1; subst q2
        exact jS.zret rfl (Or.inl rfl) (by decide +kernel)
    replace H := jif_f c207 H
    by_cases c215 : ((jI m y0 y3.toNatClampNeg) &&& (63 : Int32)) = (17 : Int32)
    · replace H := jif_t c215 H
      refine jS.tswIn (dflt := 1605) (lo := 0) (hi := 40) (offs := #[179, 212, 275, 308, 341, 384, 427, 461, 494, 517, 540, 563, 576, 599, 633, 657, 671, 685, 748, 772, 805, 849, 893, 927, 950, 973, 1007, 1031, 1094, 1117, 1181, 1214, 1247, 1260, 1273, 1296, 1339, 1412, 1446, 1509, 1572]) (off := 685) c215 (len := 179) (tgt := 718) (by decide +kernel) (by decide) (by decide) rfl (by decide) ?_
      obtain ⟨w216, H⟩ := jgd_ok H
      obtain ⟨w217, H⟩ := jgd_ok H
      obtain ⟨w218, H⟩ := jgd_ok H
      obtain ⟨w219, H⟩ := jgd_ok H
      refine jS.adv O [(.aload_n 1, 0, 0, 0, 0, 0, 0), (.aload_n 0, 0, 0, 0, 0, 0, 0), (.iload_n 3, 0, 0, 0, 0, 0, 0), (.iconst 1, 0, 0, 0, 0, (1 : Int32), 0), (.iadd, 0, 0, 0, 0, 0, 0), (.iaload, 0, 8, 0, 0, 0, 0), (.i2l, 0, 0, 0, 0, 0, 0), (.bipush 32, 0, 0, 0, 0, (32 : Int32), 0), (.lshl, 0, 0, 0, 0, 0, 0), (.aload_n 0, 0, 0, 0, 0, 0, 0), (.iload_n 3, 0, 0, 0, 0, 0, 0), (.iconst 2, 0, 0, 0, 0, (2 : Int32), 0), (.iadd, 0, 0, 0, 0, 0, 0), (.iaload, 0, 8, 0, 0, 0, 0), (.i2l, 0, 0, 0, 0, 0, 0), (.ldc2_w 89, 0, 2019, 0, 0, 0, (4294967295 : Int64)), (.land, 0, 0, 0, 0, 0, 0), (.lor, 0, 0, 0, 0, 0, 0), (.aload_n 0, 0, 0, 0, 0, 0, 0), (.iload_n 3, 0, 0, 0, 0, 0, 0), (.iconst 3, 0, 0, 0, 0, (3 : Int32), 0), (.iadd, 0, 0, 0, 0, 0, 0), (.iaload, 0, 8, 0, 0, 0, 0)] (pc' := 744) (ls' := [(0, .inr (.inr y0)), (1, .inr (.inr y1)), (2, .inr (.inr y2)), (3, .inl y3)]) (st' := [.inl (jI m y0 (y3 + (3 : Int32)).toNatClampNeg), .inr (.inl ((jlshl (Int32.toInt64 (jI m y0 (y3 + (1 : Int32)).toNatClampNeg)) (32 : Int32)) ||| ((Int32.toInt64 (jI m y0 (y3 + (2 : Int32)).toNatClampNeg)) &&& (4294967295 : Int64)))), .inr (.inr y1)]) (m2 := m) (by decide +kernel) rfl ⟨⟨w7, jib_ok w216⟩, ⟨w7, jib_ok w217⟩, ⟨w7, jib_ok w218⟩, trivial⟩ ?_
      obtain ⟨t221, w220, H⟩ := jb_ok H
      refine jS.step (c' := (747, [(0, .inr (.inr y0)), (1, .inr (.inr y1)), (2, .inr (.inr y2)), (3, .inl y3)], [.inl t221.1], t221.2)) (jSt.callV (c := 9) (As := [.inr (.inl ((jlshl (Int32.toInt64 (jI m y0 (y3 + (1 : Int32)).toNatClampNeg)) (32 : Int32)) ||| ((Int32.toInt64 (jI m y0 (y3 + (2 : Int32)).toNatClampNeg)) &&& (4294967295 : Int64)))), .inl (jI m y0 (y3 + (3 : Int32)).toNatClampNeg)]) (rest := []) O (ec_X9_at (d := 8) O (Nat.le_refl _) w220) w219 (by decide) rfl (by omega) jmw_X9_at jmv_X9_at jmn_X9_at (idx := 91) (jW_of 1104 (by decide +kernel) rfl) (Nat.le_of_ble_eq_true rfl) (by decide +kernel)) ?_
      obtain ⟨w222, H⟩ := jgd_ok H
      obtain ⟨w223, H⟩ := jgd_ok H
      obtain ⟨w224, H⟩ := jgd_ok H
      obtain ⟨w225, H⟩ := jgd_ok H
      obtain ⟨w226, H⟩ := jgd_ok H
      refine jS.adv O [(.aload_n 2, 0, 0, 0, 0, 0, 0), (.aload_n 0, 0, 0, 0, 0, 0, 0), (.iload_n 3, 0, 0, 0, 0, 0, 0), (.iconst 1, 0, 0, 0, 0, (1 : Int32), 0), (.iadd, 0, 0, 0, 0, 0, 0), (.iaload, 0, 8, 0, 0, 0, 0), (.i2l, 0, 0, 0, 0, 0, 0), (.bipush 32, 0, 0, 0, 0, (32 : Int32), 0), (.lshl, 0, 0, 0, 0, 0, 0), (.aload_n 0, 0, 0, 0, 0, 0, 0), (.iload_n 3, 0, 0, 0, 0, 0, 0), (.iconst 2, 0, 0, 0, 0, (2 : Int32), 0), (.iadd, 0, 0, 0, 0, 0, 0), (.iaload, 0, 8, 0, 0, 0, 0), (.i2l, 0, 0, 0, 0, 0, 0), (.ldc2_w 89, 0, 2019, 0, 0, 0, (4294967295 : Int64)), (.land, 0, 0, 0, 0, 0, 0), (.lor, 0, 0, 0, 0, 0, 0), (.aload_n 0, 0, 0, 0, 0, 0, 0), (.iload_n 3, 0, 0, 0, 0, 0, 0), (.iconst 3, 0, 0, 0, 0, (3 : Int32), 0), (.iadd, 0, 0, 0, 0, 0, 0), (.iaload, 0, 8, 0, 0, 0, 0)] (pc' := 773) (ls' := [(0, .inr (.inr y0)), (1, .inr (.inr y1)), (2, .inr (.inr y2)), (3, .inl y3)]) (st' := [.inl (jI t221.2 y0 (y3 + (3 : Int32)).toNatClampNeg), .inr (.inl ((jlshl (Int32.toInt64 (jI t221.2 y0 (y3 + (1 : Int32)).toNatClampNeg)) (32 : Int32)) ||| ((Int32.toInt64 (jI t221.2 y0 (y3 + (2 : Int32)).toNatClampNeg)) &&& (4294967295 : Int64)))), .inr (.inr y2), .inl t221.1]) (m2 := t221.2) (by decide +kernel) rfl ⟨⟨w222, jib_ok w223⟩, ⟨w222, jib_ok w224⟩, ⟨w222, jib_ok w225⟩, trivial⟩ ?_
      obtain ⟨t228, w227, H⟩ := jb_ok H
      refine jS.step (c' := (776, [(0, .inr (.inr y0)), (1, .inr (.inr y1)), (2, .inr (.inr y2)), (3, .inl y3)], [.inl t228.1, .inl t221.1], t228.2)) (jSt.callV (c := 10) (As := [.inr (.inl ((jlshl (Int32.toInt64 (jI t221.2 y0 (y3 + (1 : Int32)).toNatClampNeg)) (32 : Int32)) ||| ((Int32.toInt64 (jI t221.2 y0 (y3 + (2 : Int32)).toNatClampNeg)) &&& (4294967295 : Int64)))), .inl (jI t221.2 y0 (y3 + (3 : Int32)).toNatClampNeg)]) (rest := [.inl t221.1]) O (ec_X10_at (d := 77) O (Nat.le_refl _) w227) w226 (by decide) rfl (by omega) jmw_X10_at jmv_X10_at jmn_X10_at (idx := 95) (jW_of 1840 (by decide +kernel) rfl) (Nat.le_of_ble_eq_true rfl) (by decide +kernel)) ?_
      refine jS.br (i := .if_icmp .eq 862) (P := t221.1 = t228.1) (rest := []) rfl (by decide +kernel) (tgt := 1638) (by decide) (fun c229 => ?_) (fun c229 => ?_)
      · replace H := jif_t c229 H
        refine jS.adv O [(.iinc 3 6, 0, 0, 0, 0, (6 : Int32), 0), (.goto (-1623), 0, 18, 0, 0, 0, 0)] (pc' := 18) (ls' := [(3, .inl (y3 + (6 : Int32))), (0, .inr (.inr y0)), (1, .inr (.inr y1)), (2, .inr (.inr y2))]) (st' := []) (m2 := t228.2) (by decide +kernel) rfl trivial ?_
        refine jS.loc' [1, 2, 3, 0] (ls' := [(0, .inr (.inr y0)), (1, .inr (.inr y1)), (2, .inr (.inr y2)), (3, .inl (y3 + (6 : Int32)))]) rfl ?_
        exact hB _ _ _ _ _ _ H h1 h2
      · replace H := jif_f c229 H
        refine jS.adv O [(.iconst 0, 0, 0, 0, 0, (0 : Int32), 0)] (pc' := 780) (ls' := [(0, .inr (.inr y0)), (1, .inr (.inr y1)), (2, .inr (.inr y2)), (3, .inl y3)]) (st' := [.inl (0 : Int32)]) (m2 := t228.2) (by decide +kernel) rfl trivial ?_
        replace H := Option.some.inj H
        subst H
        obtain ⟨q1, q2⟩ := h1 _ rfl
        subst q1; subst q2
        exact jS.zret rfl (Or.inl rfl) (by decide +kernel)
    replace H := jif_f c215 H
    by_cases c230 : ((jI m y0 y3.toNatClampNeg) &&& (63 : Int32)) = (18 : Int32)
    · replace H := jif_t c230 H
      refine jS.tswIn (dflt := 1605) (lo := 0) (hi := 40) (offs := #[179, 212, 275, 308, 341, 384, 427, 461, 494, 517, 540, 563, 576, 599, 633, 657, 671, 685, 748, 772, 805, 849, 893, 927, 950, 973, 1007, 1031, 1094, 1117, 1181, 1214, 1247, 1260, 1273, 1296, 1339, 1412, 1446, 1509, 1572]) (off := 748) c230 (len := 179) (tgt := 781) (by decide +kernel) (by decide) (by decide) rfl (by decide) ?_
      obtain ⟨w231, H⟩ := jgd_ok H
      obtain ⟨w232, H⟩ := jgd_ok H
      refine jS.adv O [(.aload_n 1, 0, 0, 0, 0, 0, 0), (.aload_n 0, 0, 0, 0, 0, 0, 0), (.iload_n 3, 0, 0, 0, 0, 0, 0), (.iconst 1, 0, 0, 0, 0, (1 : Int32), 0), (.iadd, 0, 0, 0, 0, 0, 0), (.iaload, 0, 8, 0, 0, 0, 0)] (pc' := 787) (ls' := [(0, .inr (.inr y0)), (1, .inr (.inr y1)), (2, .inr (.inr y2)), (3, .inl y3)]) (st' := [.inl (jI m y0 (y3 + (1 : Int32)).toNatClampNeg), .inr (.inr y1)]) (m2 := m) (by decide +kernel) rfl ⟨⟨w7, jib_ok w231⟩, trivial⟩ ?_
      obtain ⟨t234, w233, H⟩ := jb_ok H
      refine jS.step (c' := (790, [(0, .inr (.inr y0)), (1, .inr (.inr y1)), (2, .inr (.inr y2)), (3, .inl y3)], [.inr (.inl t234.1)], t234.2)) (jSt.callV (c := 9) (As := [.inl (jI m y0 (y3 + (1 : Int32)).toNatClampNeg)]) (rest := []) O (ec_X9_find (d := 8) O (Nat.le_refl _) w233) w232 (by decide) rfl (by omega) jmw_X9_find jmv_X9_find jmn_X9_find (idx := 96) (jW_of 1136 (by decide +kernel) rfl) (Nat.le_of_ble_eq_true rfl) (by decide +kernel)) ?_
      obtain ⟨w235, H⟩ := jgd_ok H
      obtain ⟨w236, H⟩ := jgd_ok H
      obtain ⟨w237, H⟩ := jgd_ok H
      refine jS.adv O [(.aload_n 2, 0, 0, 0, 0, 0, 0), (.aload_n 0, 0, 0, 0, 0, 0, 0), (.iload_n 3, 0, 0, 0, 0, 0, 0), (.iconst 1, 0, 0, 0, 0, (1 : Int32), 0), (.iadd, 0, 0, 0, 0, 0, 0), (.iaload, 0, 8, 0, 0, 0, 0)] (pc' := 796) (ls' := [(0, .inr (.inr y0)), (1, .inr (.inr y1)), (2, .inr (.inr y2)), (3, .inl y3)]) (st' := [.inl (jI t234.2 y0 (y3 + (1 : Int32)).toNatClampNeg), .inr (.inr y2), .inr (.inl t234.1)]) (m2 := t234.2) (by decide +kernel) rfl ⟨⟨w235, jib_ok w236⟩, trivial⟩ ?_
      obtain ⟨t239, w238, H⟩ := jb_ok H
      refine jS.step (c' := (799, [(0, .inr (.inr y0)), (1, .inr (.inr y1)), (2, .inr (.inr y2)), (3, .inl y3)], [.inr (.inl t239.1), .inr (.inl t234.1)], t239.2)) (jSt.callV (c := 10) (As := [.inl (jI t234.2 y0 (y3 + (1 : Int32)).toNatClampNeg)]) (rest := [.inr (.inl t234.1)]) O (ec_X10_find (d := 77) O (Nat.le_refl _) w238) w237 (by decide) rfl (by omega) jmw_X10_find jmv_X10_find jmn_X10_find (idx := 99) (jW_of 1869 (by decide +kernel) rfl) (Nat.le_of_ble_eq_true rfl) (by decide +kernel)) ?_
      refine jS.adv O [(.lcmp, 0, 0, 0, 0, 0, 0)] (pc' := 800) (ls' := [(0, .inr (.inr y0)), (1, .inr (.inr y1)), (2, .inr (.inr y2)), (3, .inl y3)]) (st' := [.inl (lg_cmp t234.1 t239.1)]) (m2 := t239.2) (by decide +kernel) rfl trivial ?_
      refine jS.br (i := .ifCond .eq 838) (P := (lg_cmp t234.1 t239.1) = 0) (rest := []) rfl (by decide +kernel) (tgt := 1638) (by decide) (fun c240 => ?_) (fun c240 => ?_)
      · replace H := jif_t c240 H
        refine jS.adv O [(.iinc 3 6, 0, 0, 0, 0, (6 : Int32), 0), (.goto (-1623), 0, 18, 0, 0, 0, 0)] (pc' := 18) (ls' := [(3, .inl (y3 + (6 : Int32))), (0, .inr (.inr y0)), (1, .inr (.inr y1)), (2, .inr (.inr y2))]) (st' := []) (m2 := t239.2) (by decide +kernel) rfl trivial ?_
        refine jS.loc' [1, 2, 3, 0] (ls' := [(0, .inr (.inr y0)), (1, .inr (.inr y1)), (2, .inr (.inr y2)), (3, .inl (y3 + (6 : Int32)))]) rfl ?_
        exact hB _ _ _ _ _ _ H h1 h2
      · replace H := jif_f c240 H
        refine jS.adv O [(.iconst 0, 0, 0, 0, 0, (0 : Int32), 0)] (pc' := 804) (ls' := [(0, .inr (.inr y0)), (1, .inr (.inr y1)), (2, .inr (.inr y2)), (3, .inl y3)]) (st' := [.inl (0 : Int32)]) (m2 := t239.2) (by decide +kernel) rfl trivial ?_
        replace H := Option.some.inj H
        subst H
        obtain ⟨q1, q2⟩ := h1 _ rfl
        subst q1; subst q2
        exact jS.zret rfl (Or.inl rfl) (by decide +kernel)
    replace H := jif_f c230 H
    by_cases c241 : ((jI m y0 y3.toNatClampNeg) &&& (63 : Int32)) = (19 : Int32)
    · replace H := jif_t c241 H
      refine jS.tswIn (dflt := 1605) (lo := 0) (hi := 40) (offs := #[179, 212, 275, 308, 341, 384, 427, 461, 494, 517, 540, 563, 576, 599, 633, 657, 671, 685, 748, 772, 805, 849, 893, 927, 950, 973, 1007, 1031, 1094, 1117, 1181, 1214, 1247, 1260, 1273, 1296, 1339, 1412, 1446, 1509, 1572]) (off := 772) c241 (len := 179) (tgt := 805) (by decide +kernel) (by decide) (by decide) rfl (by decide) ?_
      obtain ⟨w242, H⟩ := jgd_ok H
      obtain ⟨w243, H⟩ := jgd_ok H
      obtain ⟨w244, H⟩ := jgd_ok H
      refine jS.adv O [(.aload_n 1, 0, 0, 0, 0, 0, 0), (.aload_n 0, 0, 0, 0, 0, 0, 0), (.iload_n 3, 0, 0, 0, 0, 0, 0), (.iconst 1, 0, 0, 0, 0, (1 : Int32), 0), (.iadd, 0, 0, 0, 0, 0, 0), (.iaload, 0, 8, 0, 0, 0, 0), (.aload_n 0, 0, 0, 0, 0, 0, 0), (.iload_n 3, 0, 0, 0, 0, 0, 0), (.iconst 2, 0, 0, 0, 0, (2 : Int32), 0), (.iadd, 0, 0, 0, 0, 0, 0), (.iaload, 0, 8, 0, 0, 0, 0)] (pc' := 816) (ls' := [(0, .inr (.inr y0)), (1, .inr (.inr y1)), (2, .inr (.inr y2)), (3, .inl y3)]) (st' := [.inl (jI m y0 (y3 + (2 : Int32)).toNatClampNeg), .inl (jI m y0 (y3 + (1 : Int32)).toNatClampNeg), .inr (.inr y1)]) (m2 := m) (by decide +kernel) rfl ⟨⟨w7, jib_ok w242⟩, ⟨w7, jib_ok w243⟩, trivial⟩ ?_
      obtain ⟨t246, w245, H⟩ := jb_ok H
      refine jS.step (c' := (819, [(0, .inr (.inr y0)), (1, .inr (.inr y1)), (2, .inr (.inr y2)), (3, .inl y3)], [.inl t246.1], t246.2)) (jSt.callV (c := 9) (As := [.inl (jI m y0 (y3 + (1 : Int32)).toNatClampNeg), .inl (jI m y0 (y3 + (2 : Int32)).toNatClampNeg)]) (rest := []) O (ec_X9_draw (d := 8) O (Nat.le_refl _) w245) w244 (by decide) rfl (by omega) jmw_X9_draw jmv_X9_draw jmn_X9_draw (idx := 100) (jW_of 1157 (by decide +kernel) rfl) (Nat.le_of_ble_eq_true rfl) (by decide +kernel)) ?_
      obtain ⟨w247, H⟩ := jgd_ok H
      obtain ⟨w248, H⟩ := jgd_ok H
      obtain ⟨w249, H⟩ := jgd_ok H
      obtain ⟨w250, H⟩ := jgd_ok H
      refine jS.adv O [(.aload_n 2, 0, 0, 0, 0, 0, 0), (.aload_n 0, 0, 0, 0, 0, 0, 0), (.iload_n 3, 0, 0, 0, 0, 0, 0), (.iconst 1, 0, 0, 0, 0, (1 : Int32), 0), (.iadd, 0, 0, 0, 0, 0, 0), (.iaload, 0, 8, 0, 0, 0, 0), (.aload_n 0, 0, 0, 0, 0, 0, 0), (.iload_n 3, 0, 0, 0, 0, 0, 0), (.iconst 2, 0, 0, 0, 0, (2 : Int32), 0), (.iadd, 0, 0, 0, 0, 0, 0), (.iaload, 0, 8, 0, 0, 0, 0)] (pc' := 830) (ls' := [(0, .inr (.inr y0)), (1, .inr (.inr y1)), (2, .inr (.inr y2)), (3, .inl y3)]) (st' := [.inl (jI t246.2 y0 (y3 + (2 : Int32)).toNatClampNeg), .inl (jI t246.2 y0 (y3 + (1 : Int32)).toNatClampNeg), .inr (.inr y2), .inl t246.1]) (m2 := t246.2) (by decide +kernel) rfl ⟨⟨w247, jib_ok w248⟩, ⟨w247, jib_ok w249⟩, trivial⟩ ?_
      obtain ⟨t252, w251, H⟩ := jb_ok H
      refine jS.step (c' := (833, [(0, .inr (.inr y0)), (1, .inr (.inr y1)), (2, .inr (.inr y2)), (3, .inl y3)], [.inl t252.1, .inl t246.1], t252.2)) (jSt.callV (c := 10) (As := [.inl (jI t246.2 y0 (y3 + (1 : Int32)).toNatClampNeg), .inl (jI t246.2 y0 (y3 + (2 : Int32)).toNatClampNeg)]) (rest := [.inl t246.1]) O (ec_X10_draw (d := 78) O (Nat.le_refl _) w251) w250 (by decide) rfl (by omega) jmw_X10_draw jmv_X10_draw jmn_X10_draw (idx := 103) (jW_of 1877 (by decide +kernel) rfl) (Nat.le_of_ble_eq_true rfl) (by decide +kernel)) ?_
      refine jS.br (i := .if_icmp .eq 805) (P := t246.1 = t252.1) (rest := []) rfl (by decide +kernel) (tgt := 1638) (by decide) (fun c253 => ?_) (fun c253 => ?_)
      · replace H := jif_t c253 H
        refine jS.adv O [(.iinc 3 6, 0, 0, 0, 0, (6 : Int32), 0), (.goto (-1623), 0, 18, 0, 0, 0, 0)] (pc' := 18) (ls' := [(3, .inl (y3 + (6 : Int32))), (0, .inr (.inr y0)), (1, .inr (.inr y1)), (2, .inr (.inr y2))]) (st' := []) (m2 := t252.2) (by decide +kernel) rfl trivial ?_
        refine jS.loc' [1, 2, 3, 0] (ls' := [(0, .inr (.inr y0)), (1, .inr (.inr y1)), (2, .inr (.inr y2)), (3, .inl (y3 + (6 : Int32)))]) rfl ?_
        exact hB _ _ _ _ _ _ H h1 h2
      · replace H := jif_f c253 H
        refine jS.adv O [(.iconst 0, 0, 0, 0, 0, (0 : Int32), 0)] (pc' := 837) (ls' := [(0, .inr (.inr y0)), (1, .inr (.inr y1)), (2, .inr (.inr y2)), (3, .inl y3)]) (st' := [.inl (0 : Int32)]) (m2 := t252.2) (by decide +kernel) rfl trivial ?_
        replace H := Option.some.inj H
        subst H
        obtain ⟨q1, q2⟩ := h1 _ rfl
        subst q1; subst q2
        exact jS.zret rfl (Or.inl rfl) (by decide +kernel)
    replace H := jif_f c241 H
    by_cases c254 : ((jI m y0 y3.toNatClampNeg) &&& (63 : Int32)) = (20 : Int32)
    · replace H := jif_t c254 H
      refine jS.tswIn (dflt := 1605) (lo := 0) (hi := 40) (offs := #[179, 212, 275, 308, 341, 384, 427, 461, 494, 517, 540, 563, 576, 599, 633, 657, 671, 685, 748, 772, 805, 849, 893, 927, 950, 973, 1007, 1031, 1094, 1117, 1181, 1214, 1247, 1260, 1273, 1296, 1339, 1412, 1446, 1509, 1572]) (off := 805) c254 (len := 179) (tgt := 838) (by decide +kernel) (by decide) (by decide) rfl (by decide) ?_
      obtain ⟨w255, H⟩ := jgd_ok H
      obtain ⟨w256, H⟩ := jgd_ok H
      obtain ⟨w257, H⟩ := jgd_ok H
      obtain ⟨w258, H⟩ := jgd_ok H
      refine jS.adv O [(.aload_n 1, 0, 0, 0, 0, 0, 0), (.aload_n 0, 0, 0, 0, 0, 0, 0), (.iload_n 3, 0, 0, 0, 0, 0, 0), (.iconst 1, 0, 0, 0, 0, (1 : Int32), 0), (.iadd, 0, 0, 0, 0, 0, 0), (.iaload, 0, 8, 0, 0, 0, 0), (.aload_n 0, 0, 0, 0, 0, 0, 0), (.iload_n 3, 0, 0, 0, 0, 0, 0), (.iconst 2, 0, 0, 0, 0, (2 : Int32), 0), (.iadd, 0, 0, 0, 0, 0, 0), (.iaload, 0, 8, 0, 0, 0, 0), (.aload_n 0, 0, 0, 0, 0, 0, 0), (.iload_n 3, 0, 0, 0, 0, 0, 0), (.iconst 3, 0, 0, 0, 0, (3 : Int32), 0), (.iadd, 0, 0, 0, 0, 0, 0), (.iaload, 0, 8, 0, 0, 0, 0)] (pc' := 854) (ls' := [(0, .inr (.inr y0)), (1, .inr (.inr y1)), (2, .inr (.inr y2)), (3, .inl y3)]) (st' := [.inl (jI m y0 (y3 + (3 : Int32)).toNatClampNeg), .inl (jI m y0 (y3 + (2 : Int32)).toNatClampNeg), .inl (jI m y0 (y3 + (1 : Int32)).toNatClampNeg), .inr (.inr y1)]) (m2 := m) (by decide +kernel) rfl ⟨⟨w7, jib_ok w255⟩, ⟨w7, jib_ok w256⟩, ⟨w7, jib_ok w257⟩, trivial⟩ ?_
      obtain ⟨t260, w259, H⟩ := jb_ok H
      refine jS.step (c' := (857, [(0, .inr (.inr y0)), (1, .inr (.inr y1)), (2, .inr (.inr y2)), (3, .inl y3)], [.inr (.inl t260.1)], t260.2)) (jSt.callV (c := 9) (As := [.inl (jI m y0 (y3 + (1 : Int32)).toNatClampNeg), .inl (jI m y0 (y3 + (2 : Int32)).toNatClampNeg), .inl (jI m y0 (y3 + (3 : Int32)).toNatClampNeg)]) (rest := []) O (ec_X9_shuffle (d := 8) O (Nat.le_refl _) w259) w258 (by decide) rfl (by omega) jmw_X9_shuffle jmv_X9_shuffle jmn_X9_shuffle (idx := 104) (jW_of 1180 (by decide +kernel) rfl) (Nat.le_of_ble_eq_true rfl) (by decide +kernel)) ?_
      obtain ⟨w261, H⟩ := jgd_ok H
      obtain ⟨w262, H⟩ := jgd_ok H
      obtain ⟨w263, H⟩ := jgd_ok H
      obtain ⟨w264, H⟩ := jgd_ok H
      obtain ⟨w265, H⟩ := jgd_ok H
      refine jS.adv O [(.aload_n 2, 0, 0, 0, 0, 0, 0), (.aload_n 0, 0, 0, 0, 0, 0, 0), (.iload_n 3, 0, 0, 0, 0, 0, 0), (.iconst 1, 0, 0, 0, 0, (1 : Int32), 0), (.iadd, 0, 0, 0, 0, 0, 0), (.iaload, 0, 8, 0, 0, 0, 0), (.aload_n 0, 0, 0, 0, 0, 0, 0), (.iload_n 3, 0, 0, 0, 0, 0, 0), (.iconst 2, 0, 0, 0, 0, (2 : Int32), 0), (.iadd, 0, 0, 0, 0, 0, 0), (.iaload, 0, 8, 0, 0, 0, 0), (.aload_n 0, 0, 0, 0, 0, 0, 0), (.iload_n 3, 0, 0, 0, 0, 0, 0), (.iconst 3, 0, 0, 0, 0, (3 : Int32), 0), (.iadd, 0, 0, 0, 0, 0, 0), (.iaload, 0, 8, 0, 0, 0, 0)] (pc' := 873) (ls' := [(0, .inr (.inr y0)), (1, .inr (.inr y1)), (2, .inr (.inr y2)), (3, .inl y3)]) (st' := [.inl (jI t260.2 y0 (y3 + (3 : Int32)).toNatClampNeg), .inl (jI t260.2 y0 (y3 + (2 : Int32)).toNatClampNeg), .inl (jI t260.2 y0 (y3 + (1 : Int32)).toNatClampNeg), .inr (.inr y2), .inr (.inl t260.1)]) (m2 := t260.2) (by decide +kernel) rfl ⟨⟨w261, jib_ok w262⟩, ⟨w261, jib_ok w263⟩, ⟨w261, jib_ok w264⟩, trivial⟩ ?_
      obtain ⟨t267, w266, H⟩ := jb_ok H
      refine jS.step (c' := (876, [(0, .inr (.inr y0)), (1, .inr (.inr y1)), (2, .inr (.inr y2)), (3, .inl y3)], [.inr (.inl t267.1), .inr (.inl t260.1)], t267.2)) (jSt.callV (c := 10) (As := [.inl (jI t260.2 y0 (y3 + (1 : Int32)).toNatClampNeg), .inl (jI t260.2 y0 (y3 + (2 : Int32)).toNatClampNeg), .inl (jI t260.2 y0 (y3 + (3 : Int32)).toNatClampNeg)]) (rest := [.inr (.inl t260.1)]) O (ec_X10_shuffle (d := 77) O (Nat.le_refl _) w266) w265 (by decide) rfl (by omega) jmw_X10_shuffle jmv_X10_shuffle jmn_X10_shuffle (idx := 108) (jW_of 1890 (by decide +kernel) rfl) (Nat.le_of_ble_eq_true rfl) (by decide +kernel)) ?_
      refine jS.adv O [(.lcmp, 0, 0, 0, 0, 0, 0)] (pc' := 877) (ls' := [(0, .inr (.inr y0)), (1, .inr (.inr y1)), (2, .inr (.inr y2)), (3, .inl y3)]) (st' := [.inl (lg_cmp t260.1 t267.1)]) (m2 := t267.2) (by decide +kernel) rfl trivial ?_
      refine jS.br (i := .ifCond .eq 761) (P := (lg_cmp t260.1 t267.1) = 0) (rest := []) rfl (by decide +kernel) (tgt := 1638) (by decide) (fun c268 => ?_) (fun c268 => ?_)
      · replace H := jif_t c268 H
        refine jS.adv O [(.iinc 3 6, 0, 0, 0, 0, (6 : Int32), 0), (.goto (-1623), 0, 18, 0, 0, 0, 0)] (pc' := 18) (ls' := [(3, .inl (y3 + (6 : Int32))), (0, .inr (.inr y0)), (1, .inr (.inr y1)), (2, .inr (.inr y2))]) (st' := []) (m2 := t267.2) (by decide +kernel) rfl trivial ?_
        refine jS.loc' [1, 2, 3, 0] (ls' := [(0, .inr (.inr y0)), (1, .inr (.inr y1)), (2, .inr (.inr y2)), (3, .inl (y3 + (6 : Int32)))]) rfl ?_
        exact hB _ _ _ _ _ _ H h1 h2
      · replace H := jif_f c268 H
        refine jS.adv O [(.iconst 0, 0, 0, 0, 0, (0 : Int32), 0)] (pc' := 881) (ls' := [(0, .inr (.inr y0)), (1, .inr (.inr y1)), (2, .inr (.inr y2)), (3, .inl y3)]) (st' := [.inl (0 : Int32)]) (m2 := t267.2) (by decide +kernel) rfl trivial ?_
        replace H := Option.some.inj H
        subst H
        obtain ⟨q1, q2⟩ := h1 _ rfl
        subst q1; subst q2
        exact jS.zret rfl (Or.inl rfl) (by decide +kernel)
    replace H := jif_f c254 H
    by_cases c269 : ((jI m y0 y3.toNatClampNeg) &&& (63 : Int32)) = (21 : Int32)
    · replace H := jif_t c269 H
      refine jS.tswIn (dflt := 1605) (lo := 0) (hi := 40) (offs := #[179, 212, 275, 308, 341, 384, 427, 461, 494, 517, 540, 563, 576, 599, 633, 657, 671, 685, 748, 772, 805, 849, 893, 927, 950, 973, 1007, 1031, 1094, 1117, 1181, 1214, 1247, 1260, 1273, 1296, 1339, 1412, 1446, 1509, 1572]) (off := 849) c269 (len := 179) (tgt := 882) (by decide +kernel) (by decide) (by decide) rfl (by decide) ?_
      obtain ⟨w270, H⟩ := jgd_ok H
      obtain ⟨w271, H⟩ := jgd_ok H
      obtain ⟨w272, H⟩ := jgd_ok H
      obtain ⟨w273, H⟩ := jgd_ok H
      refine jS.adv O [(.aload_n 1, 0, 0, 0, 0, 0, 0), (.aload_n 0, 0, 0, 0, 0, 0, 0), (.iload_n 3, 0, 0, 0, 0, 0, 0), (.iconst 1, 0, 0, 0, 0, (1 : Int32), 0), (.iadd, 0, 0, 0, 0, 0, 0), (.iaload, 0, 8, 0, 0, 0, 0), (.aload_n 0, 0, 0, 0, 0, 0, 0), (.iload_n 3, 0, 0, 0, 0, 0, 0), (.iconst 2, 0, 0, 0, 0, (2 : Int32), 0), (.iadd, 0, 0, 0, 0, 0, 0), (.iaload, 0, 8, 0, 0, 0, 0), (.aload_n 0, 0, 0, 0, 0, 0, 0), (.iload_n 3, 0, 0, 0, 0, 0, 0), (.iconst 3, 0, 0, 0, 0, (3 : Int32), 0), (.iadd, 0, 0, 0, 0, 0, 0), (.iaload, 0, 8, 0, 0, 0, 0)] (pc' := 898) (ls' := [(0, .inr (.inr y0)), (1, .inr (.inr y1)), (2, .inr (.inr y2)), (3, .inl y3)]) (st' := [.inl (jI m y0 (y3 + (3 : Int32)).toNatClampNeg), .inl (jI m y0 (y3 + (2 : Int32)).toNatClampNeg), .inl (jI m y0 (y3 + (1 : Int32)).toNatClampNeg), .inr (.inr y1)]) (m2 := m) (by decide +kernel) rfl ⟨⟨w7, jib_ok w270⟩, ⟨w7, jib_ok w271⟩, ⟨w7, jib_ok w272⟩, trivial⟩ ?_
      obtain ⟨t275, w274, H⟩ := jb_ok H
      refine jS.step (c' := (901, [(0, .inr (.inr y0)), (1, .inr (.inr y1)), (2, .inr (.inr y2)), (3, .inl y3)], [.inr (.inl t275.1)], t275.2)) (jSt.callV (c := 9) (As := [.inl (jI m y0 (y3 + (1 : Int32)).toNatClampNeg), .inl (jI m y0 (y3 + (2 : Int32)).toNatClampNeg), .inl (jI m y0 (y3 + (3 : Int32)).toNatClampNeg)]) (rest := []) O (ec_X9_odds (d := 69) O (Nat.le_refl _) w274) w273 (by decide) rfl (by omega) jmw_X9_odds jmv_X9_odds jmn_X9_odds (idx := 109) (jW_of 1195 (by decide +kernel) rfl) (Nat.le_of_ble_eq_true rfl) (by decide +kernel)) ?_
      obtain ⟨w276, H⟩ := jgd_ok H
      obtain ⟨w277, H⟩ := jgd_ok H
      obtain ⟨w278, H⟩ := jgd_ok H
      obtain ⟨w279, H⟩ := jgd_ok H
      obtain ⟨w280, H⟩ := jgd_ok H
      refine jS.adv O [(.aload_n 2, 0, 0, 0, 0, 0, 0), (.aload_n 0, 0, 0, 0, 0, 0, 0), (.iload_n 3, 0, 0, 0, 0, 0, 0), (.iconst 1, 0, 0, 0, 0, (1 : Int32), 0), (.iadd, 0, 0, 0, 0, 0, 0), (.iaload, 0, 8, 0, 0, 0, 0), (.aload_n 0, 0, 0, 0, 0, 0, 0), (.iload_n 3, 0, 0, 0, 0, 0, 0), (.iconst 2, 0, 0, 0, 0, (2 : Int32), 0), (.iadd, 0, 0, 0, 0, 0, 0), (.iaload, 0, 8, 0, 0, 0, 0), (.aload_n 0, 0, 0, 0, 0, 0, 0), (.iload_n 3, 0, 0, 0, 0, 0, 0), (.iconst 3, 0, 0, 0, 0, (3 : Int32), 0), (.iadd, 0, 0, 0, 0, 0, 0), (.iaload, 0, 8, 0, 0, 0, 0)] (pc' := 917) (ls' := [(0, .inr (.inr y0)), (1, .inr (.inr y1)), (2, .inr (.inr y2)), (3, .inl y3)]) (st' := [.inl (jI t275.2 y0 (y3 + (3 : Int32)).toNatClampNeg), .inl (jI t275.2 y0 (y3 + (2 : Int32)).toNatClampNeg), .inl (jI t275.2 y0 (y3 + (1 : Int32)).toNatClampNeg), .inr (.inr y2), .inr (.inl t275.1)]) (m2 := t275.2) (by decide +kernel) rfl ⟨⟨w276, jib_ok w277⟩, ⟨w276, jib_ok w278⟩, ⟨w276, jib_ok w279⟩, trivial⟩ ?_
      obtain ⟨t282, w281, H⟩ := jb_ok H
      refine jS.step (c' := (920, [(0, .inr (.inr y0)), (1, .inr (.inr y1)), (2, .inr (.inr y2)), (3, .inl y3)], [.inr (.inl t282.1), .inr (.inl t275.1)], t282.2)) (jSt.callV (c := 10) (As := [.inl (jI t275.2 y0 (y3 + (1 : Int32)).toNatClampNeg), .inl (jI t275.2 y0 (y3 + (2 : Int32)).toNatClampNeg), .inl (jI t275.2 y0 (y3 + (3 : Int32)).toNatClampNeg)]) (rest := [.inr (.inl t275.1)]) O (ec_X10_odds (d := 77) O (Nat.le_refl _) w281) w280 (by decide) rfl (by omega) jmw_X10_odds jmv_X10_odds jmn_X10_odds (idx := 112) (jW_of 1902 (by decide +kernel) rfl) (Nat.le_of_ble_eq_true rfl) (by decide +kernel)) ?_
      refine jS.adv O [(.lcmp, 0, 0, 0, 0, 0, 0)] (pc' := 921) (ls' := [(0, .inr (.inr y0)), (1, .inr (.inr y1)), (2, .inr (.inr y2)), (3, .inl y3)]) (st' := [.inl (lg_cmp t275.1 t282.1)]) (m2 := t282.2) (by decide +kernel) rfl trivial ?_
      refine jS.br (i := .ifCond .eq 717) (P := (lg_cmp t275.1 t282.1) = 0) (rest := []) rfl (by decide +kernel) (tgt := 1638) (by decide) (fun c283 => ?_) (fun c283 => ?_)
      · replace H := jif_t c283 H
        refine jS.adv O [(.iinc 3 6, 0, 0, 0, 0, (6 : Int32), 0), (.goto (-1623), 0, 18, 0, 0, 0, 0)] (pc' := 18) (ls' := [(3, .inl (y3 + (6 : Int32))), (0, .inr (.inr y0)), (1, .inr (.inr y1)), (2, .inr (.inr y2))]) (st' := []) (m2 := t282.2) (by decide +kernel) rfl trivial ?_
        refine jS.loc' [1, 2, 3, 0] (ls' := [(0, .inr (.inr y0)), (1, .inr (.inr y1)), (2, .inr (.inr y2)), (3, .inl (y3 + (6 : Int32)))]) rfl ?_
        exact hB _ _ _ _ _ _ H h1 h2
      · replace H := jif_f c283 H
        refine jS.adv O [(.iconst 0, 0, 0, 0, 0, (0 : Int32), 0)] (pc' := 925) (ls' := [(0, .inr (.inr y0)), (1, .inr (.inr y1)), (2, .inr (.inr y2)), (3, .inl y3)]) (st' := [.inl (0 : Int32)]) (m2 := t282.2) (by decide +kernel) rfl trivial ?_
        replace H := Option.some.inj H
        subst H
        obtain ⟨q1, q2⟩ := h1 _ rfl
        subst q1; subst q2
        exact jS.zret rfl (Or.inl rfl) (by decide +kernel)
    replace H := jif_f c269 H
    by_cases c284 : ((jI m y0 y3.toNatClampNeg) &&& (63 : Int32)) = (22 : Int32)
    · replace H := jif_t c284 H
      refine jS.tswIn (dflt := 1605) (lo := 0) (hi := 40) (offs := #[179, 212, 275, 308, 341, 384, 427, 461, 494, 517, 540, 563, 576, 599, 633, 657, 671, 685, 748, 772, 805, 849, 893, 927, 950, 973, 1007, 1031, 1094, 1117, 1181, 1214, 1247, 1260, 1273, 1296, 1339, 1412, 1446, 1509, 1572]) (off := 893) c284 (len := 179) (tgt := 926) (by decide +kernel) (by decide) (by decide) rfl (by decide) ?_
      obtain ⟨w285, H⟩ := jgd_ok H
      obtain ⟨w286, H⟩ := jgd_ok H
      obtain ⟨w287, H⟩ := jgd_ok H
      refine jS.adv O [(.aload_n 1, 0, 0, 0, 0, 0, 0), (.aload_n 0, 0, 0, 0, 0, 0, 0), (.iload_n 3, 0, 0, 0, 0, 0, 0), (.iconst 1, 0, 0, 0, 0, (1 : Int32), 0), (.iadd, 0, 0, 0, 0, 0, 0), (.iaload, 0, 8, 0, 0, 0, 0), (.aload_n 0, 0, 0, 0, 0, 0, 0), (.iload_n 3, 0, 0, 0, 0, 0, 0), (.iconst 2, 0, 0, 0, 0, (2 : Int32), 0), (.iadd, 0, 0, 0, 0, 0, 0), (.iaload, 0, 8, 0, 0, 0, 0)] (pc' := 937) (ls' := [(0, .inr (.inr y0)), (1, .inr (.inr y1)), (2, .inr (.inr y2)), (3, .inl y3)]) (st' := [.inl (jI m y0 (y3 + (2 : Int32)).toNatClampNeg), .inl (jI m y0 (y3 + (1 : Int32)).toNatClampNeg), .inr (.inr y1)]) (m2 := m) (by decide +kernel) rfl ⟨⟨w7, jib_ok w285⟩, ⟨w7, jib_ok w286⟩, trivial⟩ ?_
      obtain ⟨t289, w288, H⟩ := jb_ok H
      refine jS.step (c' := (940, [(0, .inr (.inr y0)), (1, .inr (.inr y1)), (2, .inr (.inr y2)), (3, .inl y3)], [.inr (.inl t289.1)], t289.2)) (jSt.callV (c := 9) (As := [.inl (jI m y0 (y3 + (1 : Int32)).toNatClampNeg), .inl (jI m y0 (y3 + (2 : Int32)).toNatClampNeg)]) (rest := []) O (ec_X9_values (d := 70) O (Nat.le_refl _) w288) w287 (by decide) rfl (by omega) jmw_X9_values jmv_X9_values jmn_X9_values (idx := 113) (jW_of 1208 (by decide +kernel) rfl) (Nat.le_of_ble_eq_true rfl) (by decide +kernel)) ?_
      obtain ⟨w290, H⟩ := jgd_ok H
      obtain ⟨w291, H⟩ := jgd_ok H
      obtain ⟨w292, H⟩ := jgd_ok H
      obtain ⟨w293, H⟩ := jgd_ok H
      refine jS.adv O [(.aload_n 2, 0, 0, 0, 0, 0, 0), (.aload_n 0, 0, 0, 0, 0, 0, 0), (.iload_n 3, 0, 0, 0, 0, 0, 0), (.iconst 1, 0, 0, 0, 0, (1 : Int32), 0), (.iadd, 0, 0, 0, 0, 0, 0), (.iaload, 0, 8, 0, 0, 0, 0), (.aload_n 0, 0, 0, 0, 0, 0, 0), (.iload_n 3, 0, 0, 0, 0, 0, 0), (.iconst 2, 0, 0, 0, 0, (2 : Int32), 0), (.iadd, 0, 0, 0, 0, 0, 0), (.iaload, 0, 8, 0, 0, 0, 0)] (pc' := 951) (ls' := [(0, .inr (.inr y0)), (1, .inr (.inr y1)), (2, .inr (.inr y2)), (3, .inl y3)]) (st' := [.inl (jI t289.2 y0 (y3 + (2 : Int32)).toNatClampNeg), .inl (jI t289.2 y0 (y3 + (1 : Int32)).toNatClampNeg), .inr (.inr y2), .inr (.inl t289.1)]) (m2 := t289.2) (by decide +kernel) rfl ⟨⟨w290, jib_ok w291⟩, ⟨w290, jib_ok w292⟩, trivial⟩ ?_
      obtain ⟨t295, w294, H⟩ := jb_ok H
      refine jS.step (c' := (954, [(0, .inr (.inr y0)), (1, .inr (.inr y1)), (2, .inr (.inr y2)), (3, .inl y3)], [.inr (.inl t295.1), .inr (.inl t289.1)], t295.2)) (jSt.callV (c := 10) (As := [.inl (jI t289.2 y0 (y3 + (1 : Int32)).toNatClampNeg), .inl (jI t289.2 y0 (y3 + (2 : Int32)).toNatClampNeg)]) (rest := [.inr (.inl t289.1)]) O (ec_X10_values (d := 77) O (Nat.le_refl _) w294) w293 (by decide) rfl (by omega) jmw_X10_values jmv_X10_values jmn_X10_values (idx := 116) (jW_of 1913 (by decide +kernel) rfl) (Nat.le_of_ble_eq_true rfl) (by decide +kernel)) ?_
      refine jS.adv O [(.lcmp, 0, 0, 0, 0, 0, 0)] (pc' := 955) (ls' := [(0, .inr (.inr y0)), (1, .inr (.inr y1)), (2, .inr (.inr y2)), (3, .inl y3)]) (st' := [.inl (lg_cmp t289.1 t295.1)]) (m2 := t295.2) (by decide +kernel) rfl trivial ?_
      refine jS.br (i := .ifCond .eq 683) (P := (lg_cmp t289.1 t295.1) = 0) (rest := []) rfl (by decide +kernel) (tgt := 1638) (by decide) (fun c296 => ?_) (fun c296 => ?_)
      · replace H := jif_t c296 H
        refine jS.adv O [(.iinc 3 6, 0, 0, 0, 0, (6 : Int32), 0), (.goto (-1623), 0, 18, 0, 0, 0, 0)] (pc' := 18) (ls' := [(3, .inl (y3 + (6 : Int32))), (0, .inr (.inr y0)), (1, .inr (.inr y1)), (2, .inr (.inr y2))]) (st' := []) (m2 := t295.2) (by decide +kernel) rfl trivial ?_
        refine jS.loc' [1, 2, 3, 0] (ls' := [(0, .inr (.inr y0)), (1, .inr (.inr y1)), (2, .inr (.inr y2)), (3, .inl (y3 + (6 : Int32)))]) rfl ?_
        exact hB _ _ _ _ _ _ H h1 h2
      · replace H := jif_f c296 H
        refine jS.adv O [(.iconst 0, 0, 0, 0, 0, (0 : Int32), 0)] (pc' := 959) (ls' := [(0, .inr (.inr y0)), (1, .inr (.inr y1)), (2, .inr (.inr y2)), (3, .inl y3)]) (st' := [.inl (0 : Int32)]) (m2 := t295.2) (by decide +kernel) rfl trivial ?_
        replace H := Option.some.inj H
        subst H
        obtain ⟨q1, q2⟩ := h1 _ rfl
        subst q1; subst q2
        exact jS.zret rfl (Or.inl rfl) (by decide +kernel)
    replace H := jif_f c284 H
    by_cases c297 : ((jI m y0 y3.toNatClampNeg) &&& (63 : Int32)) = (23 : Int32)
    · replace H := jif_t c297 H
      refine jS.tswIn (dflt := 1605) (lo := 0) (hi := 40) (offs := #[179, 212, 275, 308, 341, 384, 427, 461, 494, 517, 540, 563, 576, 599, 633, 657, 671, 685, 748, 772, 805, 849, 893, 927, 950, 973, 1007, 1031, 1094, 1117, 1181, 1214, 1247, 1260, 1273, 1296, 1339, 1412, 1446, 1509, 1572]) (off := 927) c297 (len := 179) (tgt := 960) (by decide +kernel) (by decide) (by decide) rfl (by decide) ?_
      obtain ⟨w298, H⟩ := jgd_ok H
      obtain ⟨w299, H⟩ := jgd_ok H
      refine jS.adv O [(.aload_n 1, 0, 0, 0, 0, 0, 0), (.aload_n 0, 0, 0, 0, 0, 0, 0), (.iload_n 3, 0, 0, 0, 0, 0, 0), (.iconst 1, 0, 0, 0, 0, (1 : Int32), 0), (.iadd, 0, 0, 0, 0, 0, 0), (.iaload, 0, 8, 0, 0, 0, 0)] (pc' := 966) (ls' := [(0, .inr (.inr y0)), (1, .inr (.inr y1)), (2, .inr (.inr y2)), (3, .inl y3)]) (st' := [.inl (jI m y0 (y3 + (1 : Int32)).toNatClampNeg), .inr (.inr y1)]) (m2 := m) (by decide +kernel) rfl ⟨⟨w7, jib_ok w298⟩, trivial⟩ ?_
      obtain ⟨t301, w300, H⟩ := jb_ok H
      refine jS.step (c' := (969, [(0, .inr (.inr y0)), (1, .inr (.inr y1)), (2, .inr (.inr y2)), (3, .inl y3)], [.inl t301.1], t301.2)) (jSt.callV (c := 9) (As := [.inl (jI m y0 (y3 + (1 : Int32)).toNatClampNeg)]) (rest := []) O (ec_X9_likeliest (d := 70) O (Nat.le_refl _) w300) w299 (by decide) rfl (by omega) jmw_X9_likeliest jmv_X9_likeliest jmn_X9_likeliest (idx := 117) (jW_of 1218 (by decide +kernel) rfl) (Nat.le_of_ble_eq_true rfl) (by decide +kernel)) ?_
      obtain ⟨w302, H⟩ := jgd_ok H
      obtain ⟨w303, H⟩ := jgd_ok H
      obtain ⟨w304, H⟩ := jgd_ok H
      refine jS.adv O [(.aload_n 2, 0, 0, 0, 0, 0, 0), (.aload_n 0, 0, 0, 0, 0, 0, 0), (.iload_n 3, 0, 0, 0, 0, 0, 0), (.iconst 1, 0, 0, 0, 0, (1 : Int32), 0), (.iadd, 0, 0, 0, 0, 0, 0), (.iaload, 0, 8, 0, 0, 0, 0)] (pc' := 975) (ls' := [(0, .inr (.inr y0)), (1, .inr (.inr y1)), (2, .inr (.inr y2)), (3, .inl y3)]) (st' := [.inl (jI t301.2 y0 (y3 + (1 : Int32)).toNatClampNeg), .inr (.inr y2), .inl t301.1]) (m2 := t301.2) (by decide +kernel) rfl ⟨⟨w302, jib_ok w303⟩, trivial⟩ ?_
      obtain ⟨t306, w305, H⟩ := jb_ok H
      refine jS.step (c' := (978, [(0, .inr (.inr y0)), (1, .inr (.inr y1)), (2, .inr (.inr y2)), (3, .inl y3)], [.inl t306.1, .inl t301.1], t306.2)) (jSt.callV (c := 10) (As := [.inl (jI t301.2 y0 (y3 + (1 : Int32)).toNatClampNeg)]) (rest := [.inl t301.1]) O (ec_X10_likeliest (d := 77) O (Nat.le_refl _) w305) w304 (by decide) rfl (by omega) jmw_X10_likeliest jmv_X10_likeliest jmn_X10_likeliest (idx := 120) (jW_of 1925 (by decide +kernel) rfl) (Nat.le_of_ble_eq_true rfl) (by decide +kernel)) ?_
      refine jS.br (i := .if_icmp .eq 660) (P := t301.1 = t306.1) (rest := []) rfl (by decide +kernel) (tgt := 1638) (by decide) (fun c307 => ?_) (fun c307 => ?_)
      · replace H := jif_t c307 H
        refine jS.adv O [(.iinc 3 6, 0, 0, 0, 0, (6 : Int32), 0), (.goto (-1623), 0, 18, 0, 0, 0, 0)] (pc' := 18) (ls' := [(3, .inl (y3 + (6 : Int32))), (0, .inr (.inr y0)), (1, .inr (.inr y1)), (2, .inr (.inr y2))]) (st' := []) (m2 := t306.2) (by decide +kernel) rfl trivial ?_
        refine jS.loc' [1, 2, 3, 0] (ls' := [(0, .inr (.inr y0)), (1, .inr (.inr y1)), (2, .inr (.inr y2)), (3, .inl (y3 + (6 : Int32)))]) rfl ?_
        exact hB _ _ _ _ _ _ H h1 h2
      · replace H := jif_f c307 H
        refine jS.adv O [(.iconst 0, 0, 0, 0, 0, (0 : Int32), 0)] (pc' := 982) (ls' := [(0, .inr (.inr y0)), (1, .inr (.inr y1)), (2, .inr (.inr y2)), (3, .inl y3)]) (st' := [.inl (0 : Int32)]) (m2 := t306.2) (by decide +kernel) rfl trivial ?_
        replace H := Option.some.inj H
        subst H
        obtain ⟨q1, q2⟩ := h1 _ rfl
        subst q1; subst q2
        exact jS.zret rfl (Or.inl rfl) (by decide +kernel)
    replace H := jif_f c297 H
    by_cases c308 : ((jI m y0 y3.toNatClampNeg) &&& (63 : Int32)) = (24 : Int32)
    · replace H := jif_t c308 H
      refine jS.tswIn (dflt := 1605) (lo := 0) (hi := 40) (offs := #[179, 212, 275, 308, 341, 384, 427, 461, 494, 517, 540, 563, 576, 599, 633, 657, 671, 685, 748, 772, 805, 849, 893, 927, 950, 973, 1007, 1031, 1094, 1117, 1181, 1214, 1247, 1260, 1273, 1296, 1339, 1412, 1446, 1509, 1572]) (off := 950) c308 (len := 179) (tgt := 983) (by decide +kernel) (by decide) (by decide) rfl (by decide) ?_
      obtain ⟨w309, H⟩ := jgd_ok H
      obtain ⟨w310, H⟩ := jgd_ok H
      refine jS.adv O [(.aload_n 1, 0, 0, 0, 0, 0, 0), (.aload_n 0, 0, 0, 0, 0, 0, 0), (.iload_n 3, 0, 0, 0, 0, 0, 0), (.iconst 1, 0, 0, 0, 0, (1 : Int32), 0), (.iadd, 0, 0, 0, 0, 0, 0), (.iaload, 0, 8, 0, 0, 0, 0)] (pc' := 989) (ls' := [(0, .inr (.inr y0)), (1, .inr (.inr y1)), (2, .inr (.inr y2)), (3, .inl y3)]) (st' := [.inl (jI m y0 (y3 + (1 : Int32)).toNatClampNeg), .inr (.inr y1)]) (m2 := m) (by decide +kernel) rfl ⟨⟨w7, jib_ok w309⟩, trivial⟩ ?_
      obtain ⟨t312, w311, H⟩ := jb_ok H
      refine jS.step (c' := (992, [(0, .inr (.inr y0)), (1, .inr (.inr y1)), (2, .inr (.inr y2)), (3, .inl y3)], [.inl t312.1], t312.2)) (jSt.callV (c := 9) (As := [.inl (jI m y0 (y3 + (1 : Int32)).toNatClampNeg)]) (rest := []) O (ec_X9_dangling (d := 70) O (Nat.le_refl _) w311) w310 (by decide) rfl (by omega) jmw_X9_dangling jmv_X9_dangling jmn_X9_dangling (idx := 121) (jW_of 1222 (by decide +kernel) rfl) (Nat.le_of_ble_eq_true rfl) (by decide +kernel)) ?_
      obtain ⟨w313, H⟩ := jgd_ok H
      obtain ⟨w314, H⟩ := jgd_ok H
      obtain ⟨w315, H⟩ := jgd_ok H
      refine jS.adv O [(.aload_n 2, 0, 0, 0, 0, 0, 0), (.aload_n 0, 0, 0, 0, 0, 0, 0), (.iload_n 3, 0, 0, 0, 0, 0, 0), (.iconst 1, 0, 0, 0, 0, (1 : Int32), 0), (.iadd, 0, 0, 0, 0, 0, 0), (.iaload, 0, 8, 0, 0, 0, 0)] (pc' := 998) (ls' := [(0, .inr (.inr y0)), (1, .inr (.inr y1)), (2, .inr (.inr y2)), (3, .inl y3)]) (st' := [.inl (jI t312.2 y0 (y3 + (1 : Int32)).toNatClampNeg), .inr (.inr y2), .inl t312.1]) (m2 := t312.2) (by decide +kernel) rfl ⟨⟨w313, jib_ok w314⟩, trivial⟩ ?_
      obtain ⟨t317, w316, H⟩ := jb_ok H
      refine jS.step (c' := (1001, [(0, .inr (.inr y0)), (1, .inr (.inr y1)), (2, .inr (.inr y2)), (3, .inl y3)], [.inl t317.1, .inl t312.1], t317.2)) (jSt.callV (c := 10) (As := [.inl (jI t312.2 y0 (y3 + (1 : Int32)).toNatClampNeg)]) (rest := [.inl t312.1]) O (ec_X10_dangling (d := 77) O (Nat.le_refl _) w316) w315 (by decide) rfl (by omega) jmw_X10_dangling jmv_X10_dangling jmn_X10_dangling (idx := 124) (jW_of 1929 (by decide +kernel) rfl) (Nat.le_of_ble_eq_true rfl) (by decide +kernel)) ?_
      refine jS.br (i := .if_icmp .eq 637) (P := t312.1 = t317.1) (rest := []) rfl (by decide +kernel) (tgt := 1638) (by decide) (fun c318 => ?_) (fun c318 => ?_)
      · replace H := jif_t c318 H
        refine jS.adv O [(.iinc 3 6, 0, 0, 0, 0, (6 : Int32), 0), (.goto (-1623), 0, 18, 0, 0, 0, 0)] (pc' := 18) (ls' := [(3, .inl (y3 + (6 : Int32))), (0, .inr (.inr y0)), (1, .inr (.inr y1)), (2, .inr (.inr y2))]) (st' := []) (m2 := t317.2) (by decide +kernel) rfl trivial ?_
        refine jS.loc' [1, 2, 3, 0] (ls' := [(0, .inr (.inr y0)), (1, .inr (.inr y1)), (2, .inr (.inr y2)), (3, .inl (y3 + (6 : Int32)))]) rfl ?_
        exact hB _ _ _ _ _ _ H h1 h2
      · replace H := jif_f c318 H
        refine jS.adv O [(.iconst 0, 0, 0, 0, 0, (0 : Int32), 0)] (pc' := 1005) (ls' := [(0, .inr (.inr y0)), (1, .inr (.inr y1)), (2, .inr (.inr y2)), (3, .inl y3)]) (st' := [.inl (0 : Int32)]) (m2 := t317.2) (by decide +kernel) rfl trivial ?_
        replace H := Option.some.inj H
        subst H
        obtain ⟨q1, q2⟩ := h1 _ rfl
        subst q1; subst q2
        exact jS.zret rfl (Or.inl rfl) (by decide +kernel)
    replace H := jif_f c308 H
    by_cases c319 : ((jI m y0 y3.toNatClampNeg) &&& (63 : Int32)) = (25 : Int32)
    · replace H := jif_t c319 H
      refine jS.tswIn (dflt := 1605) (lo := 0) (hi := 40) (offs := #[179, 212, 275, 308, 341, 384, 427, 461, 494, 517, 540, 563, 576, 599, 633, 657, 671, 685, 748, 772, 805, 849, 893, 927, 950, 973, 1007, 1031, 1094, 1117, 1181, 1214, 1247, 1260, 1273, 1296, 1339, 1412, 1446, 1509, 1572]) (off := 973) c319 (len := 179) (tgt := 1006) (by decide +kernel) (by decide) (by decide) rfl (by decide) ?_
      obtain ⟨w320, H⟩ := jgd_ok H
      obtain ⟨w321, H⟩ := jgd_ok H
      obtain ⟨w322, H⟩ := jgd_ok H
      refine jS.adv O [(.aload_n 1, 0, 0, 0, 0, 0, 0), (.aload_n 0, 0, 0, 0, 0, 0, 0), (.iload_n 3, 0, 0, 0, 0, 0, 0), (.iconst 1, 0, 0, 0, 0, (1 : Int32), 0), (.iadd, 0, 0, 0, 0, 0, 0), (.iaload, 0, 8, 0, 0, 0, 0), (.aload_n 0, 0, 0, 0, 0, 0, 0), (.iload_n 3, 0, 0, 0, 0, 0, 0), (.iconst 2, 0, 0, 0, 0, (2 : Int32), 0), (.iadd, 0, 0, 0, 0, 0, 0), (.iaload, 0, 8, 0, 0, 0, 0)] (pc' := 1017) (ls' := [(0, .inr (.inr y0)), (1, .inr (.inr y1)), (2, .inr (.inr y2)), (3, .inl y3)]) (st' := [.inl (jI m y0 (y3 + (2 : Int32)).toNatClampNeg), .inl (jI m y0 (y3 + (1 : Int32)).toNatClampNeg), .inr (.inr y1)]) (m2 := m) (by decide +kernel) rfl ⟨⟨w7, jib_ok w320⟩, ⟨w7, jib_ok w321⟩, trivial⟩ ?_
      obtain ⟨t324, w323, H⟩ := jb_ok H
      refine jS.step (c' := (1020, [(0, .inr (.inr y0)), (1, .inr (.inr y1)), (2, .inr (.inr y2)), (3, .inl y3)], [.inr (.inl t324.1)], t324.2)) (jSt.callV (c := 9) (As := [.inl (jI m y0 (y3 + (1 : Int32)).toNatClampNeg), .inl (jI m y0 (y3 + (2 : Int32)).toNatClampNeg)]) (rest := []) O (ec_X9_without (d := 69) O (Nat.le_refl _) w323) w322 (by decide) rfl (by omega) jmw_X9_without jmv_X9_without jmn_X9_without (idx := 125) (jW_of 1230 (by decide +kernel) rfl) (Nat.le_of_ble_eq_true rfl) (by decide +kernel)) ?_
      obtain ⟨w325, H⟩ := jgd_ok H
      obtain ⟨w326, H⟩ := jgd_ok H
      obtain ⟨w327, H⟩ := jgd_ok H
      obtain ⟨w328, H⟩ := jgd_ok H
      refine jS.adv O [(.aload_n 2, 0, 0, 0, 0, 0, 0), (.aload_n 0, 0, 0, 0, 0, 0, 0), (.iload_n 3, 0, 0, 0, 0, 0, 0), (.iconst 1, 0, 0, 0, 0, (1 : Int32), 0), (.iadd, 0, 0, 0, 0, 0, 0), (.iaload, 0, 8, 0, 0, 0, 0), (.aload_n 0, 0, 0, 0, 0, 0, 0), (.iload_n 3, 0, 0, 0, 0, 0, 0), (.iconst 2, 0, 0, 0, 0, (2 : Int32), 0), (.iadd, 0, 0, 0, 0, 0, 0), (.iaload, 0, 8, 0, 0, 0, 0)] (pc' := 1031) (ls' := [(0, .inr (.inr y0)), (1, .inr (.inr y1)), (2, .inr (.inr y2)), (3, .inl y3)]) (st' := [.inl (jI t324.2 y0 (y3 + (2 : Int32)).toNatClampNeg), .inl (jI t324.2 y0 (y3 + (1 : Int32)).toNatClampNeg), .inr (.inr y2), .inr (.inl t324.1)]) (m2 := t324.2) (by decide +kernel) rfl ⟨⟨w325, jib_ok w326⟩, ⟨w325, jib_ok w327⟩, trivial⟩ ?_
      obtain ⟨t330, w329, H⟩ := jb_ok H
      refine jS.step (c' := (1034, [(0, .inr (.inr y0)), (1, .inr (.inr y1)), (2, .inr (.inr y2)), (3, .inl y3)], [.inr (.inl t330.1), .inr (.inl t324.1)], t330.2)) (jSt.callV (c := 10) (As := [.inl (jI t324.2 y0 (y3 + (1 : Int32)).toNatClampNeg), .inl (jI t324.2 y0 (y3 + (2 : Int32)).toNatClampNeg)]) (rest := [.inr (.inl t324.1)]) O (ec_X10_without (d := 78) O (Nat.le_refl _) w329) w328 (by decide) rfl (by omega) jmw_X10_without jmv_X10_without jmn_X10_without (idx := 128) (jW_of 1933 (by decide +kernel) rfl) (Nat.le_of_ble_eq_true rfl) (by decide +kernel)) ?_
      refine jS.adv O [(.lcmp, 0, 0, 0, 0, 0, 0)] (pc' := 1035) (ls' := [(0, .inr (.inr y0)), (1, .inr (.inr y1)), (2, .inr (.inr y2)), (3, .inl y3)]) (st' := [.inl (lg_cmp t324.1 t330.1)]) (m2 := t330.2) (by decide +kernel) rfl trivial ?_
      refine jS.br (i := .ifCond .eq 603) (P := (lg_cmp t324.1 t330.1) = 0) (rest := []) rfl (by decide +kernel) (tgt := 1638) (by decide) (fun c331 => ?_) (fun c331 => ?_)
      · replace H := jif_t c331 H
        refine jS.adv O [(.iinc 3 6, 0, 0, 0, 0, (6 : Int32), 0), (.goto (-1623), 0, 18, 0, 0, 0, 0)] (pc' := 18) (ls' := [(3, .inl (y3 + (6 : Int32))), (0, .inr (.inr y0)), (1, .inr (.inr y1)), (2, .inr (.inr y2))]) (st' := []) (m2 := t330.2) (by decide +kernel) rfl trivial ?_
        refine jS.loc' [1, 2, 3, 0] (ls' := [(0, .inr (.inr y0)), (1, .inr (.inr y1)), (2, .inr (.inr y2)), (3, .inl (y3 + (6 : Int32)))]) rfl ?_
        exact hB _ _ _ _ _ _ H h1 h2
      · replace H := jif_f c331 H
        refine jS.adv O [(.iconst 0, 0, 0, 0, 0, (0 : Int32), 0)] (pc' := 1039) (ls' := [(0, .inr (.inr y0)), (1, .inr (.inr y1)), (2, .inr (.inr y2)), (3, .inl y3)]) (st' := [.inl (0 : Int32)]) (m2 := t330.2) (by decide +kernel) rfl trivial ?_
        replace H := Option.some.inj H
        subst H
        obtain ⟨q1, q2⟩ := h1 _ rfl
        subst q1; subst q2
        exact jS.zret rfl (Or.inl rfl) (by decide +kernel)
    replace H := jif_f c319 H
    by_cases c332 : ((jI m y0 y3.toNatClampNeg) &&& (63 : Int32)) = (26 : Int32)
    · replace H := jif_t c332 H
      refine jS.tswIn (dflt := 1605) (lo := 0) (hi := 40) (offs := #[179, 212, 275, 308, 341, 384, 427, 461, 494, 517, 540, 563, 576, 599, 633, 657, 671, 685, 748, 772, 805, 849, 893, 927, 950, 973, 1007, 1031, 1094, 1117, 1181, 1214, 1247, 1260, 1273, 1296, 1339, 1412, 1446, 1509, 1572]) (off := 1007) c332 (len := 179) (tgt := 1040) (by decide +kernel) (by decide) (by decide) rfl (by decide) ?_
      obtain ⟨w333, H⟩ := jgd_ok H
      obtain ⟨w334, H⟩ := jgd_ok H
      refine jS.adv O [(.aload_n 1, 0, 0, 0, 0, 0, 0), (.aload_n 0, 0, 0, 0, 0, 0, 0), (.iload_n 3, 0, 0, 0, 0, 0, 0), (.iconst 1, 0, 0, 0, 0, (1 : Int32), 0), (.iadd, 0, 0, 0, 0, 0, 0), (.iaload, 0, 8, 0, 0, 0, 0)] (pc' := 1046) (ls' := [(0, .inr (.inr y0)), (1, .inr (.inr y1)), (2, .inr (.inr y2)), (3, .inl y3)]) (st' := [.inl (jI m y0 (y3 + (1 : Int32)).toNatClampNeg), .inr (.inr y1)]) (m2 := m) (by decide +kernel) rfl ⟨⟨w7, jib_ok w333⟩, trivial⟩ ?_
      obtain ⟨t336, w335, H⟩ := jb_ok H
      refine jS.step (c' := (1049, [(0, .inr (.inr y0)), (1, .inr (.inr y1)), (2, .inr (.inr y2)), (3, .inl y3)], [.inr (.inl t336.1)], t336.2)) (jSt.callV (c := 9) (As := [.inl (jI m y0 (y3 + (1 : Int32)).toNatClampNeg)]) (rest := []) O (ec_X9_key (d := 69) O (Nat.le_refl _) w335) w334 (by decide) rfl (by omega) jmw_X9_key jmv_X9_key jmn_X9_key (idx := 129) (jW_of 1234 (by decide +kernel) rfl) (Nat.le_of_ble_eq_true rfl) (by decide +kernel)) ?_
      obtain ⟨w337, H⟩ := jgd_ok H
      obtain ⟨w338, H⟩ := jgd_ok H
      obtain ⟨w339, H⟩ := jgd_ok H
      refine jS.adv O [(.aload_n 2, 0, 0, 0, 0, 0, 0), (.aload_n 0, 0, 0, 0, 0, 0, 0), (.iload_n 3, 0, 0, 0, 0, 0, 0), (.iconst 1, 0, 0, 0, 0, (1 : Int32), 0), (.iadd, 0, 0, 0, 0, 0, 0), (.iaload, 0, 8, 0, 0, 0, 0)] (pc' := 1055) (ls' := [(0, .inr (.inr y0)), (1, .inr (.inr y1)), (2, .inr (.inr y2)), (3, .inl y3)]) (st' := [.inl (jI t336.2 y0 (y3 + (1 : Int32)).toNatClampNeg), .inr (.inr y2), .inr (.inl t336.1)]) (m2 := t336.2) (by decide +kernel) rfl ⟨⟨w337, jib_ok w338⟩, trivial⟩ ?_
      obtain ⟨t341, w340, H⟩ := jb_ok H
      refine jS.step (c' := (1058, [(0, .inr (.inr y0)), (1, .inr (.inr y1)), (2, .inr (.inr y2)), (3, .inl y3)], [.inr (.inl t341.1), .inr (.inl t336.1)], t341.2)) (jSt.callV (c := 10) (As := [.inl (jI t336.2 y0 (y3 + (1 : Int32)).toNatClampNeg)]) (rest := [.inr (.inl t336.1)]) O (ec_X10_key (d := 78) O (Nat.le_refl _) w340) w339 (by decide) rfl (by omega) jmw_X10_key jmv_X10_key jmn_X10_key (idx := 132) (jW_of 1941 (by decide +kernel) rfl) (Nat.le_of_ble_eq_true rfl) (by decide +kernel)) ?_
      refine jS.adv O [(.lcmp, 0, 0, 0, 0, 0, 0)] (pc' := 1059) (ls' := [(0, .inr (.inr y0)), (1, .inr (.inr y1)), (2, .inr (.inr y2)), (3, .inl y3)]) (st' := [.inl (lg_cmp t336.1 t341.1)]) (m2 := t341.2) (by decide +kernel) rfl trivial ?_
      refine jS.br (i := .ifCond .eq 579) (P := (lg_cmp t336.1 t341.1) = 0) (rest := []) rfl (by decide +kernel) (tgt := 1638) (by decide) (fun c342 => ?_) (fun c342 => ?_)
      · replace H := jif_t c342 H
        refine jS.adv O [(.iinc 3 6, 0, 0, 0, 0, (6 : Int32), 0), (.goto (-1623), 0, 18, 0, 0, 0, 0)] (pc' := 18) (ls' := [(3, .inl (y3 + (6 : Int32))), (0, .inr (.inr y0)), (1, .inr (.inr y1)), (2, .inr (.inr y2))]) (st' := []) (m2 := t341.2) (by decide +kernel) rfl trivial ?_
        refine jS.loc' [1, 2, 3, 0] (ls' := [(0, .inr (.inr y0)), (1, .inr (.inr y1)), (2, .inr (.inr y2)), (3, .inl (y3 + (6 : Int32)))]) rfl ?_
        exact hB _ _ _ _ _ _ H h1 h2
      · replace H := jif_f c342 H
        refine jS.adv O [(.iconst 0, 0, 0, 0, 0, (0 : Int32), 0)] (pc' := 1063) (ls' := [(0, .inr (.inr y0)), (1, .inr (.inr y1)), (2, .inr (.inr y2)), (3, .inl y3)]) (st' := [.inl (0 : Int32)]) (m2 := t341.2) (by decide +kernel) rfl trivial ?_
        replace H := Option.some.inj H
        subst H
        obtain ⟨q1, q2⟩ := h1 _ rfl
        subst q1; subst q2
        exact jS.zret rfl (Or.inl rfl) (by decide +kernel)
    replace H := jif_f c332 H
    by_cases c343 : ((jI m y0 y3.toNatClampNeg) &&& (63 : Int32)) = (27 : Int32)
    · replace H := jif_t c343 H
      refine jS.tswIn (dflt := 1605) (lo := 0) (hi := 40) (offs := #[179, 212, 275, 308, 341, 384, 427, 461, 494, 517, 540, 563, 576, 599, 633, 657, 671, 685, 748, 772, 805, 849, 893, 927, 950, 973, 1007, 1031, 1094, 1117, 1181, 1214, 1247, 1260, 1273, 1296, 1339, 1412, 1446, 1509, 1572]) (off := 1031) c343 (len := 179) (tgt := 1064) (by decide +kernel) (by decide) (by decide) rfl (by decide) ?_
      obtain ⟨w344, H⟩ := jgd_ok H
      obtain ⟨w345, H⟩ := jgd_ok H
      obtain ⟨w346, H⟩ := jgd_ok H
      obtain ⟨w347, H⟩ := jgd_ok H
      refine jS.adv O [(.aload_n 1, 0, 0, 0, 0, 0, 0), (.aload_n 0, 0, 0, 0, 0, 0, 0), (.iload_n 3, 0, 0, 0, 0, 0, 0), (.iconst 1, 0, 0, 0, 0, (1 : Int32), 0), (.iadd, 0, 0, 0, 0, 0, 0), (.iaload, 0, 8, 0, 0, 0, 0), (.aload_n 0, 0, 0, 0, 0, 0, 0), (.iload_n 3, 0, 0, 0, 0, 0, 0), (.iconst 2, 0, 0, 0, 0, (2 : Int32), 0), (.iadd, 0, 0, 0, 0, 0, 0), (.iaload, 0, 8, 0, 0, 0, 0), (.i2l, 0, 0, 0, 0, 0, 0), (.bipush 32, 0, 0, 0, 0, (32 : Int32), 0), (.lshl, 0, 0, 0, 0, 0, 0), (.aload_n 0, 0, 0, 0, 0, 0, 0), (.iload_n 3, 0, 0, 0, 0, 0, 0), (.iconst 3, 0, 0, 0, 0, (3 : Int32), 0), (.iadd, 0, 0, 0, 0, 0, 0), (.iaload, 0, 8, 0, 0, 0, 0), (.i2l, 0, 0, 0, 0, 0, 0), (.ldc2_w 89, 0, 2019, 0, 0, 0, (4294967295 : Int64)), (.land, 0, 0, 0, 0, 0, 0), (.lor, 0, 0, 0, 0, 0, 0)] (pc' := 1090) (ls' := [(0, .inr (.inr y0)), (1, .inr (.inr y1)), (2, .inr (.inr y2)), (3, .inl y3)]) (st' := [.inr (.inl ((jlshl (Int32.toInt64 (jI m y0 (y3 + (2 : Int32)).toNatClampNeg)) (32 : Int32)) ||| ((Int32.toInt64 (jI m y0 (y3 + (3 : Int32)).toNatClampNeg)) &&& (4294967295 : Int64)))), .inl (jI m y0 (y3 + (1 : Int32)).toNatClampNeg), .inr (.inr y1)]) (m2 := m) (by decide +kernel) rfl ⟨⟨w7, jib_ok w344⟩, ⟨w7, jib_ok w345⟩, ⟨w7, jib_ok w346⟩, trivial⟩ ?_
      obtain ⟨t349, w348, H⟩ := jb_ok H
      refine jS.step (c' := (1093, [(0, .inr (.inr y0)), (1, .inr (.inr y1)), (2, .inr (.inr y2)), (3, .inl y3)], [.inl t349.1], t349.2)) (jSt.callV (c := 9) (As := [.inl (jI m y0 (y3 + (1 : Int32)).toNatClampNeg), .inr (.inl ((jlshl (Int32.toInt64 (jI m y0 (y3 + (2 : Int32)).toNatClampNeg)) (32 : Int32)) ||| ((Int32.toInt64 (jI m y0 (y3 + (3 : Int32)).toNatClampNeg)) &&& (4294967295 : Int64))))]) (rest := []) O (ec_X9_strip (d := 70) O (Nat.le_refl _) w348) w347 (by decide) rfl (by omega) jmw_X9_strip jmv_X9_strip jmn_X9_strip (idx := 133) (jW_of 1238 (by decide +kernel) rfl) (Nat.le_of_ble_eq_true rfl) (by decide +kernel)) ?_
      obtain ⟨w350, H⟩ := jgd_ok H
      obtain ⟨w351, H⟩ := jgd_ok H
      obtain ⟨w352, H⟩ := jgd_ok H
      obtain ⟨w353, H⟩ := jgd_ok H
      obtain ⟨w354, H⟩ := jgd_ok H
      refine jS.adv O [(.aload_n 2, 0, 0, 0, 0, 0, 0), (.aload_n 0, 0, 0, 0, 0, 0, 0), (.iload_n 3, 0, 0, 0, 0, 0, 0), (.iconst 1, 0, 0, 0, 0, (1 : Int32), 0), (.iadd, 0, 0, 0, 0, 0, 0), (.iaload, 0, 8, 0, 0, 0, 0), (.aload_n 0, 0, 0, 0, 0, 0, 0), (.iload_n 3, 0, 0, 0, 0, 0, 0), (.iconst 2, 0, 0, 0, 0, (2 : Int32), 0), (.iadd, 0, 0, 0, 0, 0, 0), (.iaload, 0, 8, 0, 0, 0, 0), (.i2l, 0, 0, 0, 0, 0, 0), (.bipush 32, 0, 0, 0, 0, (32 : Int32), 0), (.lshl, 0, 0, 0, 0, 0, 0), (.aload_n 0, 0, 0, 0, 0, 0, 0), (.iload_n 3, 0, 0, 0, 0, 0, 0), (.iconst 3, 0, 0, 0, 0, (3 : Int32), 0), (.iadd, 0, 0, 0, 0, 0, 0), (.iaload, 0, 8, 0, 0, 0, 0), (.i2l, 0, 0, 0, 0, 0, 0), (.ldc2_w 89, 0, 2019, 0, 0, 0, (4294967295 : Int64)), (.land, 0, 0, 0, 0, 0, 0), (.lor, 0, 0, 0, 0, 0, 0)] (pc' := 1119) (ls' := [(0, .inr (.inr y0)), (1, .inr (.inr y1)), (2, .inr (.inr y2)), (3, .inl y3)]) (st' := [.inr (.inl ((jlshl (Int32.toInt64 (jI t349.2 y0 (y3 + (2 : Int32)).toNatClampNeg)) (32 : Int32)) ||| ((Int32.toInt64 (jI t349.2 y0 (y3 + (3 : Int32)).toNatClampNeg)) &&& (4294967295 : Int64)))), .inl (jI t349.2 y0 (y3 + (1 : Int32)).toNatClampNeg), .inr (.inr y2), .inl t349.1]) (m2 := t349.2) (by decide +kernel) rfl ⟨⟨w350, jib_ok w351⟩, ⟨w350, jib_ok w352⟩, ⟨w350, jib_ok w353⟩, trivial⟩ ?_
      obtain ⟨t356, w355, H⟩ := jb_ok H
      refine jS.step (c' := (1122, [(0, .inr (.inr y0)), (1, .inr (.inr y1)), (2, .inr (.inr y2)), (3, .inl y3)], [.inl t356.1, .inl t349.1], t356.2)) (jSt.callV (c := 10) (As := [.inl (jI t349.2 y0 (y3 + (1 : Int32)).toNatClampNeg), .inr (.inl ((jlshl (Int32.toInt64 (jI t349.2 y0 (y3 + (2 : Int32)).toNatClampNeg)) (32 : Int32)) ||| ((Int32.toInt64 (jI t349.2 y0 (y3 + (3 : Int32)).toNatClampNeg)) &&& (4294967295 : Int64))))]) (rest := [.inl t349.1]) O (ec_X10_strip (d := 77) O (Nat.le_refl _) w355) w354 (by decide) rfl (by omega) jmw_X10_strip jmv_X10_strip jmn_X10_strip (idx := 137) (jW_of 1945 (by decide +kernel) rfl) (Nat.le_of_ble_eq_true rfl) (by decide +kernel)) ?_
      refine jS.br (i := .if_icmp .eq 516) (P := t349.1 = t356.1) (rest := []) rfl (by decide +kernel) (tgt := 1638) (by decide) (fun c357 => ?_) (fun c357 => ?_)
      · replace H := jif_t c357 H
        refine jS.adv O [(.iinc 3 6, 0, 0, 0, 0, (6 : Int32), 0), (.goto (-1623), 0, 18, 0, 0, 0, 0)] (pc' := 18) (ls' := [(3, .inl (y3 + (6 : Int32))), (0, .inr (.inr y0)), (1, .inr (.inr y1)), (2, .inr (.inr y2))]) (st' := []) (m2 := t356.2) (by decide +kernel) rfl trivial ?_
        refine jS.loc' [1, 2, 3, 0] (ls' := [(0, .inr (.inr y0)), (1, .inr (.inr y1)), (2, .inr (.inr y2)), (3, .inl (y3 + (6 : Int32)))]) rfl ?_
        exact hB _ _ _ _ _ _ H h1 h2
      · replace H := jif_f c357 H
        refine jS.adv O [(.iconst 0, 0, 0, 0, 0, (0 : Int32), 0)] (pc' := 1126) (ls' := [(0, .inr (.inr y0)), (1, .inr (.inr y1)), (2, .inr (.inr y2)), (3, .inl y3)]) (st' := [.inl (0 : Int32)]) (m2 := t356.2) (by decide +kernel) rfl trivial ?_
        replace H := Option.some.inj H
        subst H
        obtain ⟨q1, q2⟩ := h1 _ rfl
        subst q1; subst q2
        exact jS.zret rfl (Or.inl rfl) (by decide +kernel)
    replace H := jif_f c343 H
    by_cases c358 : ((jI m y0 y3.toNatClampNeg) &&& (63 : Int32)) = (28 : Int32)
    · replace H := jif_t c358 H
      refine jS.tswIn (dflt := 1605) (lo := 0) (hi := 40) (offs := #[179, 212, 275, 308, 341, 384, 427, 461, 494, 517, 540, 563, 576, 599, 633, 657, 671, 685, 748, 772, 805, 849, 893, 927, 950, 973, 1007, 1031, 1094, 1117, 1181, 1214, 1247, 1260, 1273, 1296, 1339, 1412, 1446, 1509, 1572]) (off := 1094) c358 (len := 179) (tgt := 1127) (by decide +kernel) (by decide) (by decide) rfl (by decide) ?_
      obtain ⟨w359, H⟩ := jgd_ok H
      obtain ⟨w360, H⟩ := jgd_ok H
      refine jS.adv O [(.aload_n 1, 0, 0, 0, 0, 0, 0), (.aload_n 0, 0, 0, 0, 0, 0, 0), (.iload_n 3, 0, 0, 0, 0, 0, 0), (.iconst 1, 0, 0, 0, 0, (1 : Int32), 0), (.iadd, 0, 0, 0, 0, 0, 0), (.iaload, 0, 8, 0, 0, 0, 0)] (pc' := 1133) (ls' := [(0, .inr (.inr y0)), (1, .inr (.inr y1)), (2, .inr (.inr y2)), (3, .inl y3)]) (st' := [.inl (jI m y0 (y3 + (1 : Int32)).toNatClampNeg), .inr (.inr y1)]) (m2 := m) (by decide +kernel) rfl ⟨⟨w7, jib_ok w359⟩, trivial⟩ ?_
      obtain ⟨t362, w361, H⟩ := jb_ok H
      refine jS.step (c' := (1136, [(0, .inr (.inr y0)), (1, .inr (.inr y1)), (2, .inr (.inr y2)), (3, .inl y3)], [.inl t362], m)) (jSt.callV (c := 9) (As := [.inl (jI m y0 (y3 + (1 : Int32)).toNatClampNeg)]) (rest := []) O (ec_X9_slate (d := 2) O (Nat.le_refl _) w361) w360 (by decide) rfl (by omega) jmw_X9_slate jmv_X9_slate jmn_X9_slate (idx := 138) (jW_of 1262 (by decide +kernel) rfl) (Nat.le_of_ble_eq_true rfl) (by decide +kernel)) ?_
      obtain ⟨w363, H⟩ := jgd_ok H
      obtain ⟨w364, H⟩ := jgd_ok H
      refine jS.adv O [(.aload_n 2, 0, 0, 0, 0, 0, 0), (.aload_n 0, 0, 0, 0, 0, 0, 0), (.iload_n 3, 0, 0, 0, 0, 0, 0), (.iconst 1, 0, 0, 0, 0, (1 : Int32), 0), (.iadd, 0, 0, 0, 0, 0, 0), (.iaload, 0, 8, 0, 0, 0, 0)] (pc' := 1142) (ls' := [(0, .inr (.inr y0)), (1, .inr (.inr y1)), (2, .inr (.inr y2)), (3, .inl y3)]) (st' := [.inl (jI m y0 (y3 + (1 : Int32)).toNatClampNeg), .inr (.inr y2), .inl t362]) (m2 := m) (by decide +kernel) rfl ⟨⟨w7, jib_ok w363⟩, trivial⟩ ?_
      obtain ⟨t366, w365, H⟩ := jb_ok H
      refine jS.step (c' := (1145, [(0, .inr (.inr y0)), (1, .inr (.inr y1)), (2, .inr (.inr y2)), (3, .inl y3)], [.inl t366, .inl t362], m)) (jSt.callV (c := 10) (As := [.inl (jI m y0 (y3 + (1 : Int32)).toNatClampNeg)]) (rest := [.inl t362]) O (ec_X10_slate (d := 3) O (Nat.le_refl _) w365) w364 (by decide) rfl (by omega) jmw_X10_slate jmv_X10_slate jmn_X10_slate (idx := 141) (jW_of 1954 (by decide +kernel) rfl) (Nat.le_of_ble_eq_true rfl) (by decide +kernel)) ?_
      refine jS.br (i := .if_icmp .eq 493) (P := t362 = t366) (rest := []) rfl (by decide +kernel) (tgt := 1638) (by decide) (fun c367 => ?_) (fun c367 => ?_)
      · replace H := jif_t c367 H
        refine jS.adv O [(.iinc 3 6, 0, 0, 0, 0, (6 : Int32), 0), (.goto (-1623), 0, 18, 0, 0, 0, 0)] (pc' := 18) (ls' := [(3, .inl (y3 + (6 : Int32))), (0, .inr (.inr y0)), (1, .inr (.inr y1)), (2, .inr (.inr y2))]) (st' := []) (m2 := m) (by decide +kernel) rfl trivial ?_
        refine jS.loc' [1, 2, 3, 0] (ls' := [(0, .inr (.inr y0)), (1, .inr (.inr y1)), (2, .inr (.inr y2)), (3, .inl (y3 + (6 : Int32)))]) rfl ?_
        exact hB _ _ _ _ _ _ H h1 h2
      · replace H := jif_f c367 H
        refine jS.adv O [(.iconst 0, 0, 0, 0, 0, (0 : Int32), 0)] (pc' := 1149) (ls' := [(0, .inr (.inr y0)), (1, .inr (.inr y1)), (2, .inr (.inr y2)), (3, .inl y3)]) (st' := [.inl (0 : Int32)]) (m2 := m) (by decide +kernel) rfl trivial ?_
        replace H := Option.some.inj H
        subst H
        obtain ⟨q1, q2⟩ := h1 _ rfl
        subst q1; subst q2
        exact jS.zret rfl (Or.inl rfl) (by decide +kernel)
    replace H := jif_f c358 H
    by_cases c368 : ((jI m y0 y3.toNatClampNeg) &&& (63 : Int32)) = (29 : Int32)
    · replace H := jif_t c368 H
      refine jS.tswIn (dflt := 1605) (lo := 0) (hi := 40) (offs := #[179, 212, 275, 308, 341, 384, 427, 461, 494, 517, 540, 563, 576, 599, 633, 657, 671, 685, 748, 772, 805, 849, 893, 927, 950, 973, 1007, 1031, 1094, 1117, 1181, 1214, 1247, 1260, 1273, 1296, 1339, 1412, 1446, 1509, 1572]) (off := 1117) c368 (len := 179) (tgt := 1150) (by decide +kernel) (by decide) (by decide) rfl (by decide) ?_
      obtain ⟨w369, H⟩ := jgd_ok H
      obtain ⟨w370, H⟩ := jgd_ok H
      obtain ⟨w371, H⟩ := jgd_ok H
      obtain ⟨w372, H⟩ := jgd_ok H
      obtain ⟨w373, H⟩ := jgd_ok H
      obtain ⟨w374, H⟩ := jgd_ok H
      refine jS.adv O [(.aload_n 1, 0, 0, 0, 0, 0, 0), (.aload_n 0, 0, 0, 0, 0, 0, 0), (.iload_n 3, 0, 0, 0, 0, 0, 0), (.iconst 1, 0, 0, 0, 0, (1 : Int32), 0), (.iadd, 0, 0, 0, 0, 0, 0), (.iaload, 0, 8, 0, 0, 0, 0), (.aload_n 0, 0, 0, 0, 0, 0, 0), (.iload_n 3, 0, 0, 0, 0, 0, 0), (.iconst 2, 0, 0, 0, 0, (2 : Int32), 0), (.iadd, 0, 0, 0, 0, 0, 0), (.iaload, 0, 8, 0, 0, 0, 0), (.aload_n 0, 0, 0, 0, 0, 0, 0), (.iload_n 3, 0, 0, 0, 0, 0, 0), (.iconst 3, 0, 0, 0, 0, (3 : Int32), 0), (.iadd, 0, 0, 0, 0, 0, 0), (.iaload, 0, 8, 0, 0, 0, 0), (.aload_n 0, 0, 0, 0, 0, 0, 0), (.iload_n 3, 0, 0, 0, 0, 0, 0), (.iconst 4, 0, 0, 0, 0, (4 : Int32), 0), (.iadd, 0, 0, 0, 0, 0, 0), (.iaload, 0, 8, 0, 0, 0, 0), (.aload_n 0, 0, 0, 0, 0, 0, 0), (.iload_n 3, 0, 0, 0, 0, 0, 0), (.iconst 5, 0, 0, 0, 0, (5 : Int32), 0), (.iadd, 0, 0, 0, 0, 0, 0), (.iaload, 0, 8, 0, 0, 0, 0)] (pc' := 1176) (ls' := [(0, .inr (.inr y0)), (1, .inr (.inr y1)), (2, .inr (.inr y2)), (3, .inl y3)]) (st' := [.inl (jI m y0 (y3 + (5 : Int32)).toNatClampNeg), .inl (jI m y0 (y3 + (4 : Int32)).toNatClampNeg), .inl (jI m y0 (y3 + (3 : Int32)).toNatClampNeg), .inl (jI m y0 (y3 + (2 : Int32)).toNatClampNeg), .inl (jI m y0 (y3 + (1 : Int32)).toNatClampNeg), .inr (.inr y1)]) (m2 := m) (by decide +kernel) rfl ⟨⟨w7, jib_ok w369⟩, ⟨w7, jib_ok w370⟩, ⟨w7, jib_ok w371⟩, ⟨w7, jib_ok w372⟩, ⟨w7, jib_ok w373⟩, trivial⟩ ?_
      obtain ⟨t376, w375, H⟩ := jb_ok H
      refine jS.step (c' := (1179, [(0, .inr (.inr y0)), (1, .inr (.inr y1)), (2, .inr (.inr y2)), (3, .inl y3)], [.inr (.inl t376.1)], t376.2)) (jSt.callV (c := 9) (As := [.inl (jI m y0 (y3 + (1 : Int32)).toNatClampNeg), .inl (jI m y0 (y3 + (2 : Int32)).toNatClampNeg), .inl (jI m y0 (y3 + (3 : Int32)).toNatClampNeg), .inl (jI m y0 (y3 + (4 : Int32)).toNatClampNeg), .inl (jI m y0 (y3 + (5 : Int32)).toNatClampNeg)]) (rest := []) O (ec_X9_lot (d := 8) O (Nat.le_refl _) w375) w374 (by decide) rfl (by omega) jmw_X9_lot jmv_X9_lot jmn_X9_lot (idx := 142) (jW_of 1266 (by decide +kernel) rfl) (Nat.le_of_ble_eq_true rfl) (by decide +kernel)) ?_
      obtain ⟨w377, H⟩ := jgd_ok H
      obtain ⟨w378, H⟩ := jgd_ok H
      obtain ⟨w379, H⟩ := jgd_ok H
      obtain ⟨w380, H⟩ := jgd_ok H
      obtain ⟨w381, H⟩ := jgd_ok H
      obtain ⟨w382, H⟩ := jgd_ok H
      obtain ⟨w383, H⟩ := jgd_ok H
      refine jS.adv O [(.aload_n 2, 0, 0, 0, 0, 0, 0), (.aload_n 0, 0, 0, 0, 0, 0, 0), (.iload_n 3, 0, 0, 0, 0, 0, 0), (.iconst 1, 0, 0, 0, 0, (1 : Int32), 0), (.iadd, 0, 0, 0, 0, 0, 0), (.iaload, 0, 8, 0, 0, 0, 0), (.aload_n 0, 0, 0, 0, 0, 0, 0), (.iload_n 3, 0, 0, 0, 0, 0, 0), (.iconst 2, 0, 0, 0, 0, (2 : Int32), 0), (.iadd, 0, 0, 0, 0, 0, 0), (.iaload, 0, 8, 0, 0, 0, 0), (.aload_n 0, 0, 0, 0, 0, 0, 0), (.iload_n 3, 0, 0, 0, 0, 0, 0), (.iconst 3, 0, 0, 0, 0, (3 : Int32), 0), (.iadd, 0, 0, 0, 0, 0, 0), (.iaload, 0, 8, 0, 0, 0, 0), (.aload_n 0, 0, 0, 0, 0, 0, 0), (.iload_n 3, 0, 0, 0, 0, 0, 0), (.iconst 4, 0, 0, 0, 0, (4 : Int32), 0), (.iadd, 0, 0, 0, 0, 0, 0), (.iaload, 0, 8, 0, 0, 0, 0), (.aload_n 0, 0, 0, 0, 0, 0, 0), (.iload_n 3, 0, 0, 0, 0, 0, 0), (.iconst 5, 0, 0, 0, 0, (5 : Int32), 0), (.iadd, 0, 0, 0, 0, 0, 0), (.iaload, 0, 8, 0, 0, 0, 0)] (pc' := 1205) (ls' := [(0, .inr (.inr y0)), (1, .inr (.inr y1)), (2, .inr (.inr y2)), (3, .inl y3)]) (st' := [.inl (jI t376.2 y0 (y3 + (5 : Int32)).toNatClampNeg), .inl (jI t376.2 y0 (y3 + (4 : Int32)).toNatClampNeg), .inl (jI t376.2 y0 (y3 + (3 : Int32)).toNatClampNeg), .inl (jI t376.2 y0 (y3 + (2 : Int32)).toNatClampNeg), .inl (jI t376.2 y0 (y3 + (1 : Int32)).toNatClampNeg), .inr (.inr y2), .inr (.inl t376.1)]) (m2 := t376.2) (by decide +kernel) rfl ⟨⟨w377, jib_ok w378⟩, ⟨w377, jib_ok w379⟩, ⟨w377, jib_ok w380⟩, ⟨w377, jib_ok w381⟩, ⟨w377, jib_ok w382⟩, trivial⟩ ?_
      obtain ⟨t385, w384, H⟩ := jb_ok H
      refine jS.step (c' := (1208, [(0, .inr (.inr y0)), (1, .inr (.inr y1)), (2, .inr (.inr y2)), (3, .inl y3)], [.inr (.inl t385.1), .inr (.inl t376.1)], t385.2)) (jSt.callV (c := 10) (As := [.inl (jI t376.2 y0 (y3 + (1 : Int32)).toNatClampNeg), .inl (jI t376.2 y0 (y3 + (2 : Int32)).toNatClampNeg), .inl (jI t376.2 y0 (y3 + (3 : Int32)).toNatClampNeg), .inl (jI t376.2 y0 (y3 + (4 : Int32)).toNatClampNeg), .inl (jI t376.2 y0 (y3 + (5 : Int32)).toNatClampNeg)]) (rest := [.inr (.inl t376.1)]) O (ec_X10_lot (d := 78) O (Nat.le_refl _) w384) w383 (by decide) rfl (by omega) jmw_X10_lot jmv_X10_lot jmn_X10_lot (idx := 146) (jW_of 1958 (by decide +kernel) rfl) (Nat.le_of_ble_eq_true rfl) (by decide +kernel)) ?_
      refine jS.adv O [(.lcmp, 0, 0, 0, 0, 0, 0)] (pc' := 1209) (ls' := [(0, .inr (.inr y0)), (1, .inr (.inr y1)), (2, .inr (.inr y2)), (3, .inl y3)]) (st' := [.inl (lg_cmp t376.1 t385.1)]) (m2 := t385.2) (by decide +kernel) rfl trivial ?_
      refine jS.br (i := .ifCond .eq 429) (P := (lg_cmp t376.1 t385.1) = 0) (rest := []) rfl (by decide +kernel) (tgt := 1638) (by decide) (fun c386 => ?_) (fun c386 => ?_)
      · replace H := jif_t c386 H
        refine jS.adv O [(.iinc 3 6, 0, 0, 0, 0, (6 : Int32), 0), (.goto (-1623), 0, 18, 0, 0, 0, 0)] (pc' := 18) (ls' := [(3, .inl (y3 + (6 : Int32))), (0, .inr (.inr y0)), (1, .inr (.inr y1)), (2, .inr (.inr y2))]) (st' := []) (m2 := t385.2) (by decide +kernel) rfl trivial ?_
        refine jS.loc' [1, 2, 3, 0] (ls' := [(0, .inr (.inr y0)), (1, .inr (.inr y1)), (2, .inr (.inr y2)), (3, .inl (y3 + (6 : Int32)))]) rfl ?_
        exact hB _ _ _ _ _ _ H h1 h2
      · replace H := jif_f c386 H
        refine jS.adv O [(.iconst 0, 0, 0, 0, 0, (0 : Int32), 0)] (pc' := 1213) (ls' := [(0, .inr (.inr y0)), (1, .inr (.inr y1)), (2, .inr (.inr y2)), (3, .inl y3)]) (st' := [.inl (0 : Int32)]) (m2 := t385.2) (by decide +kernel) rfl trivial ?_
        replace H := Option.some.inj H
        subst H
        obtain ⟨q1, q2⟩ := h1 _ rfl
        subst q1; subst q2
        exact jS.zret rfl (Or.inl rfl) (by decide +kernel)
    replace H := jif_f c368 H
    by_cases c387 : ((jI m y0 y3.toNatClampNeg) &&& (63 : Int32)) = (30 : Int32)
    · replace H := jif_t c387 H
      refine jS.tswIn (dflt := 1605) (lo := 0) (hi := 40) (offs := #[179, 212, 275, 308, 341, 384, 427, 461, 494, 517, 540, 563, 576, 599, 633, 657, 671, 685, 748, 772, 805, 849, 893, 927, 950, 973, 1007, 1031, 1094, 1117, 1181, 1214, 1247, 1260, 1273, 1296, 1339, 1412, 1446, 1509, 1572]) (off := 1181) c387 (len := 179) (tgt := 1214) (by decide +kernel) (by decide) (by decide) rfl (by decide) ?_
      obtain ⟨w388, H⟩ := jgd_ok H
      obtain ⟨w389, H⟩ := jgd_ok H
      obtain ⟨w390, H⟩ := jgd_ok H
      refine jS.adv O [(.aload_n 1, 0, 0, 0, 0, 0, 0), (.aload_n 0, 0, 0, 0, 0, 0, 0), (.iload_n 3, 0, 0, 0, 0, 0, 0), (.iconst 1, 0, 0, 0, 0, (1 : Int32), 0), (.iadd, 0, 0, 0, 0, 0, 0), (.iaload, 0, 8, 0, 0, 0, 0), (.aload_n 0, 0, 0, 0, 0, 0, 0), (.iload_n 3, 0, 0, 0, 0, 0, 0), (.iconst 2, 0, 0, 0, 0, (2 : Int32), 0), (.iadd, 0, 0, 0, 0, 0, 0), (.iaload, 0, 8, 0, 0, 0, 0)] (pc' := 1225) (ls' := [(0, .inr (.inr y0)), (1, .inr (.inr y1)), (2, .inr (.inr y2)), (3, .inl y3)]) (st' := [.inl (jI m y0 (y3 + (2 : Int32)).toNatClampNeg), .inl (jI m y0 (y3 + (1 : Int32)).toNatClampNeg), .inr (.inr y1)]) (m2 := m) (by decide +kernel) rfl ⟨⟨w7, jib_ok w388⟩, ⟨w7, jib_ok w389⟩, trivial⟩ ?_
      obtain ⟨t392, w391, H⟩ := jb_ok H
      refine jS.step (c' := (1228, [(0, .inr (.inr y0)), (1, .inr (.inr y1)), (2, .inr (.inr y2)), (3, .inl y3)], [.inl t392.1], t392.2)) (jSt.callV (c := 9) (As := [.inl (jI m y0 (y3 + (1 : Int32)).toNatClampNeg), .inl (jI m y0 (y3 + (2 : Int32)).toNatClampNeg)]) (rest := []) O (ec_X9_tells (d := 8) O (Nat.le_refl _) w391) w390 (by decide) rfl (by omega) jmw_X9_tells jmv_X9_tells jmn_X9_tells (idx := 147) (jW_of 1270 (by decide +kernel) rfl) (Nat.le_of_ble_eq_true rfl) (by decide +kernel)) ?_
      obtain ⟨w393, H⟩ := jgd_ok H
      obtain ⟨w394, H⟩ := jgd_ok H
      obtain ⟨w395, H⟩ := jgd_ok H
      obtain ⟨w396, H⟩ := jgd_ok H
      refine jS.adv O [(.aload_n 2, 0, 0, 0, 0, 0, 0), (.aload_n 0, 0, 0, 0, 0, 0, 0), (.iload_n 3, 0, 0, 0, 0, 0, 0), (.iconst 1, 0, 0, 0, 0, (1 : Int32), 0), (.iadd, 0, 0, 0, 0, 0, 0), (.iaload, 0, 8, 0, 0, 0, 0), (.aload_n 0, 0, 0, 0, 0, 0, 0), (.iload_n 3, 0, 0, 0, 0, 0, 0), (.iconst 2, 0, 0, 0, 0, (2 : Int32), 0), (.iadd, 0, 0, 0, 0, 0, 0), (.iaload, 0, 8, 0, 0, 0, 0)] (pc' := 1239) (ls' := [(0, .inr (.inr y0)), (1, .inr (.inr y1)), (2, .inr (.inr y2)), (3, .inl y3)]) (st' := [.inl (jI t392.2 y0 (y3 + (2 : Int32)).toNatClampNeg), .inl (jI t392.2 y0 (y3 + (1 : Int32)).toNatClampNeg), .inr (.inr y2), .inl t392.1]) (m2 := t392.2) (by decide +kernel) rfl ⟨⟨w393, jib_ok w394⟩, ⟨w393, jib_ok w395⟩, trivial⟩ ?_
      obtain ⟨t398, w397, H⟩ := jb_ok H
      refine jS.step (c' := (1242, [(0, .inr (.inr y0)), (1, .inr (.inr y1)), (2, .inr (.inr y2)), (3, .inl y3)], [.inl t398.1, .inl t392.1], t398.2)) (jSt.callV (c := 10) (As := [.inl (jI t392.2 y0 (y3 + (1 : Int32)).toNatClampNeg), .inl (jI t392.2 y0 (y3 + (2 : Int32)).toNatClampNeg)]) (rest := [.inl t392.1]) O (ec_X10_tells (d := 80) O (Nat.le_refl _) w397) w396 (by decide) rfl (by omega) jmw_X10_tells jmv_X10_tells jmn_X10_tells (idx := 150) (jW_of 1963 (by decide +kernel) rfl) (Nat.le_of_ble_eq_true rfl) (by decide +kernel)) ?_
      refine jS.br (i := .if_icmp .eq 396) (P := t392.1 = t398.1) (rest := []) rfl (by decide +kernel) (tgt := 1638) (by decide) (fun c399 => ?_) (fun c399 => ?_)
      · replace H := jif_t c399 H
        refine jS.adv O [(.iinc 3 6, 0, 0, 0, 0, (6 : Int32), 0), (.goto (-1623), 0, 18, 0, 0, 0, 0)] (pc' := 18) (ls' := [(3, .inl (y3 + (6 : Int32))), (0, .inr (.inr y0)), (1, .inr (.inr y1)), (2, .inr (.inr y2))]) (st' := []) (m2 := t398.2) (by decide +kernel) rfl trivial ?_
        refine jS.loc' [1, 2, 3, 0] (ls' := [(0, .inr (.inr y0)), (1, .inr (.inr y1)), (2, .inr (.inr y2)), (3, .inl (y3 + (6 : Int32)))]) rfl ?_
        exact hB _ _ _ _ _ _ H h1 h2
      · replace H := jif_f c399 H
        refine jS.adv O [(.iconst 0, 0, 0, 0, 0, (0 : Int32), 0)] (pc' := 1246) (ls' := [(0, .inr (.inr y0)), (1, .inr (.inr y1)), (2, .inr (.inr y2)), (3, .inl y3)]) (st' := [.inl (0 : Int32)]) (m2 := t398.2) (by decide +kernel) rfl trivial ?_
        replace H := Option.some.inj H
        subst H
        obtain ⟨q1, q2⟩ := h1 _ rfl
        subst q1; subst q2
        exact jS.zret rfl (Or.inl rfl) (by decide +kernel)
    replace H := jif_f c387 H
    by_cases c400 : ((jI m y0 y3.toNatClampNeg) &&& (63 : Int32)) = (31 : Int32)
    · replace H := jif_t c400 H
      refine jS.tswIn (dflt := 1605) (lo := 0) (hi := 40) (offs := #[179, 212, 275, 308, 341, 384, 427, 461, 494, 517, 540, 563, 576, 599, 633, 657, 671, 685, 748, 772, 805, 849, 893, 927, 950, 973, 1007, 1031, 1094, 1117, 1181, 1214, 1247, 1260, 1273, 1296, 1339, 1412, 1446, 1509, 1572]) (off := 1214) c400 (len := 179) (tgt := 1247) (by decide +kernel) (by decide) (by decide) rfl (by decide) ?_
      obtain ⟨w401, H⟩ := jgd_ok H
      obtain ⟨w402, H⟩ := jgd_ok H
      obtain ⟨w403, H⟩ := jgd_ok H
      refine jS.adv O [(.aload_n 1, 0, 0, 0, 0, 0, 0), (.aload_n 0, 0, 0, 0, 0, 0, 0), (.iload_n 3, 0, 0, 0, 0, 0, 0), (.iconst 1, 0, 0, 0, 0, (1 : Int32), 0), (.iadd, 0, 0, 0, 0, 0, 0), (.iaload, 0, 8, 0, 0, 0, 0), (.aload_n 0, 0, 0, 0, 0, 0, 0), (.iload_n 3, 0, 0, 0, 0, 0, 0), (.iconst 2, 0, 0, 0, 0, (2 : Int32), 0), (.iadd, 0, 0, 0, 0, 0, 0), (.iaload, 0, 8, 0, 0, 0, 0)] (pc' := 1258) (ls' := [(0, .inr (.inr y0)), (1, .inr (.inr y1)), (2, .inr (.inr y2)), (3, .inl y3)]) (st' := [.inl (jI m y0 (y3 + (2 : Int32)).toNatClampNeg), .inl (jI m y0 (y3 + (1 : Int32)).toNatClampNeg), .inr (.inr y1)]) (m2 := m) (by decide +kernel) rfl ⟨⟨w7, jib_ok w401⟩, ⟨w7, jib_ok w402⟩, trivial⟩ ?_
      obtain ⟨t405, w404, H⟩ := jb_ok H
      refine jS.step (c' := (1261, [(0, .inr (.inr y0)), (1, .inr (.inr y1)), (2, .inr (.inr y2)), (3, .inl y3)], [.inl t405.1], t405.2)) (jSt.callV (c := 9) (As := [.inl (jI m y0 (y3 + (1 : Int32)).toNatClampNeg), .inl (jI m y0 (y3 + (2 : Int32)).toNatClampNeg)]) (rest := []) O (ec_X9_film (d := 8) O (Nat.le_refl _) w404) w403 (by decide) rfl (by omega) jmw_X9_film jmv_X9_film jmn_X9_film (idx := 151) (jW_of 1281 (by decide +kernel) rfl) (Nat.le_of_ble_eq_true rfl) (by decide +kernel)) ?_
      obtain ⟨w406, H⟩ := jgd_ok H
      obtain ⟨w407, H⟩ := jgd_ok H
      obtain ⟨w408, H⟩ := jgd_ok H
      obtain ⟨w409, H⟩ := jgd_ok H
      refine jS.adv O [(.aload_n 2, 0, 0, 0, 0, 0, 0), (.aload_n 0, 0, 0, 0, 0, 0, 0), (.iload_n 3, 0, 0, 0, 0, 0, 0), (.iconst 1, 0, 0, 0, 0, (1 : Int32), 0), (.iadd, 0, 0, 0, 0, 0, 0), (.iaload, 0, 8, 0, 0, 0, 0), (.aload_n 0, 0, 0, 0, 0, 0, 0), (.iload_n 3, 0, 0, 0, 0, 0, 0), (.iconst 2, 0, 0, 0, 0, (2 : Int32), 0), (.iadd, 0, 0, 0, 0, 0, 0), (.iaload, 0, 8, 0, 0, 0, 0)] (pc' := 1272) (ls' := [(0, .inr (.inr y0)), (1, .inr (.inr y1)), (2, .inr (.inr y2)), (3, .inl y3)]) (st' := [.inl (jI t405.2 y0 (y3 + (2 : Int32)).toNatClampNeg), .inl (jI t405.2 y0 (y3 + (1 : Int32)).toNatClampNeg), .inr (.inr y2), .inl t405.1]) (m2 := t405.2) (by decide +kernel) rfl ⟨⟨w406, jib_ok w407⟩, ⟨w406, jib_ok w408⟩, trivial⟩ ?_
      obtain ⟨t411, w410, H⟩ := jb_ok H
      refine jS.step (c' := (1275, [(0, .inr (.inr y0)), (1, .inr (.inr y1)), (2, .inr (.inr y2)), (3, .inl y3)], [.inl t411.1, .inl t405.1], t411.2)) (jSt.callV (c := 10) (As := [.inl (jI t405.2 y0 (y3 + (1 : Int32)).toNatClampNeg), .inl (jI t405.2 y0 (y3 + (2 : Int32)).toNatClampNeg)]) (rest := [.inl t405.1]) O (ec_X10_film (d := 79) O (Nat.le_refl _) w410) w409 (by decide) rfl (by omega) jmw_X10_film jmv_X10_film jmn_X10_film (idx := 154) (jW_of 1975 (by decide +kernel) rfl) (Nat.le_of_ble_eq_true rfl) (by decide +kernel)) ?_
      refine jS.br (i := .if_icmp .eq 363) (P := t405.1 = t411.1) (rest := []) rfl (by decide +kernel) (tgt := 1638) (by decide) (fun c412 => ?_) (fun c412 => ?_)
      · replace H := jif_t c412 H
        refine jS.adv O [(.iinc 3 6, 0, 0, 0, 0, (6 : Int32), 0), (.goto (-1623), 0, 18, 0, 0, 0, 0)] (pc' := 18) (ls' := [(3, .inl (y3 + (6 : Int32))), (0, .inr (.inr y0)), (1, .inr (.inr y1)), (2, .inr (.inr y2))]) (st' := []) (m2 := t411.2) (by decide +kernel) rfl trivial ?_
        refine jS.loc' [1, 2, 3, 0] (ls' := [(0, .inr (.inr y0)), (1, .inr (.inr y1)), (2, .inr (.inr y2)), (3, .inl (y3 + (6 : Int32)))]) rfl ?_
        exact hB _ _ _ _ _ _ H h1 h2
      · replace H := jif_f c412 H
        refine jS.adv O [(.iconst 0, 0, 0, 0, 0, (0 : Int32), 0)] (pc' := 1279) (ls' := [(0, .inr (.inr y0)), (1, .inr (.inr y1)), (2, .inr (.inr y2)), (3, .inl y3)]) (st' := [.inl (0 : Int32)]) (m2 := t411.2) (by decide +kernel) rfl trivial ?_
        replace H := Option.some.inj H
        subst H
        obtain ⟨q1, q2⟩ := h1 _ rfl
        subst q1; subst q2
        exact jS.zret rfl (Or.inl rfl) (by decide +kernel)
    replace H := jif_f c400 H
    by_cases c413 : ((jI m y0 y3.toNatClampNeg) &&& (63 : Int32)) = (32 : Int32)
    · replace H := jif_t c413 H
      refine jS.tswIn (dflt := 1605) (lo := 0) (hi := 40) (offs := #[179, 212, 275, 308, 341, 384, 427, 461, 494, 517, 540, 563, 576, 599, 633, 657, 671, 685, 748, 772, 805, 849, 893, 927, 950, 973, 1007, 1031, 1094, 1117, 1181, 1214, 1247, 1260, 1273, 1296, 1339, 1412, 1446, 1509, 1572]) (off := 1247) c413 (len := 179) (tgt := 1280) (by decide +kernel) (by decide) (by decide) rfl (by decide) ?_
      obtain ⟨w414, H⟩ := jgd_ok H
      refine jS.adv O [(.aload_n 1, 0, 0, 0, 0, 0, 0)] (pc' := 1281) (ls' := [(0, .inr (.inr y0)), (1, .inr (.inr y1)), (2, .inr (.inr y2)), (3, .inl y3)]) (st' := [.inr (.inr y1)]) (m2 := m) (by decide +kernel) rfl trivial ?_
      obtain ⟨t416, w415, H⟩ := jb_ok H
      refine jS.step (c' := (1284, [(0, .inr (.inr y0)), (1, .inr (.inr y1)), (2, .inr (.inr y2)), (3, .inl y3)], [.inl t416.1], t416.2)) (jSt.callV (c := 9) (As := []) (rest := []) O (ec_X9_image (d := 3) O (Nat.le_refl _) w415) w414 (by decide) rfl (by omega) jmw_X9_image jmv_X9_image jmn_X9_image (idx := 155) (jW_of 1294 (by decide +kernel) rfl) (Nat.le_of_ble_eq_true rfl) (by decide +kernel)) ?_
      obtain ⟨w417, H⟩ := jgd_ok H
      refine jS.adv O [(.aload_n 2, 0, 0, 0, 0, 0, 0)] (pc' := 1285) (ls' := [(0, .inr (.inr y0)), (1, .inr (.inr y1)), (2, .inr (.inr y2)), (3, .inl y3)]) (st' := [.inr (.inr y2), .inl t416.1]) (m2 := t416.2) (by decide +kernel) rfl trivial ?_
      obtain ⟨t419, w418, H⟩ := jb_ok H
      refine jS.step (c' := (1288, [(0, .inr (.inr y0)), (1, .inr (.inr y1)), (2, .inr (.inr y2)), (3, .inl y3)], [.inl t419.1, .inl t416.1], t419.2)) (jSt.callV (c := 10) (As := []) (rest := [.inl t416.1]) O (ec_X10_image (d := 2) O (Nat.le_refl _) w418) w417 (by decide) rfl (by omega) jmw_X10_image jmv_X10_image jmn_X10_image (idx := 158) (jW_of 1985 (by decide +kernel) rfl) (Nat.le_of_ble_eq_true rfl) (by decide +kernel)) ?_
      refine jS.br (i := .if_icmp .eq 350) (P := t416.1 = t419.1) (rest := []) rfl (by decide +kernel) (tgt := 1638) (by decide) (fun c420 => ?_) (fun c420 => ?_)
      · replace H := jif_t c420 H
        refine jS.adv O [(.iinc 3 6, 0, 0, 0, 0, (6 : Int32), 0), (.goto (-1623), 0, 18, 0, 0, 0, 0)] (pc' := 18) (ls' := [(3, .inl (y3 + (6 : Int32))), (0, .inr (.inr y0)), (1, .inr (.inr y1)), (2, .inr (.inr y2))]) (st' := []) (m2 := t419.2) (by decide +kernel) rfl trivial ?_
        refine jS.loc' [1, 2, 3, 0] (ls' := [(0, .inr (.inr y0)), (1, .inr (.inr y1)), (2, .inr (.inr y2)), (3, .inl (y3 + (6 : Int32)))]) rfl ?_
        exact hB _ _ _ _ _ _ H h1 h2
      · replace H := jif_f c420 H
        refine jS.adv O [(.iconst 0, 0, 0, 0, 0, (0 : Int32), 0)] (pc' := 1292) (ls' := [(0, .inr (.inr y0)), (1, .inr (.inr y1)), (2, .inr (.inr y2)), (3, .inl y3)]) (st' := [.inl (0 : Int32)]) (m2 := t419.2) (by decide +kernel) rfl trivial ?_
        replace H := Option.some.inj H
        subst H
        obtain ⟨q1, q2⟩ := h1 _ rfl
        subst q1; subst q2
        exact jS.zret rfl (Or.inl rfl) (by decide +kernel)
    replace H := jif_f c413 H
    by_cases c421 : ((jI m y0 y3.toNatClampNeg) &&& (63 : Int32)) = (33 : Int32)
    · replace H := jif_t c421 H
      refine jS.tswIn (dflt := 1605) (lo := 0) (hi := 40) (offs := #[179, 212, 275, 308, 341, 384, 427, 461, 494, 517, 540, 563, 576, 599, 633, 657, 671, 685, 748, 772, 805, 849, 893, 927, 950, 973, 1007, 1031, 1094, 1117, 1181, 1214, 1247, 1260, 1273, 1296, 1339, 1412, 1446, 1509, 1572]) (off := 1260) c421 (len := 179) (tgt := 1293) (by decide +kernel) (by decide) (by decide) rfl (by decide) ?_
      obtain ⟨w422, H⟩ := jgd_ok H
      refine jS.adv O [(.aload_n 1, 0, 0, 0, 0, 0, 0)] (pc' := 1294) (ls' := [(0, .inr (.inr y0)), (1, .inr (.inr y1)), (2, .inr (.inr y2)), (3, .inl y3)]) (st' := [.inr (.inr y1)]) (m2 := m) (by decide +kernel) rfl trivial ?_
      obtain ⟨t424, w423, H⟩ := jb_ok H
      refine jS.step (c' := (1297, [(0, .inr (.inr y0)), (1, .inr (.inr y1)), (2, .inr (.inr y2)), (3, .inl y3)], [.inl t424.1], t424.2)) (jSt.callV (c := 9) (As := []) (rest := []) O (ec_X9_back (d := 3) O (Nat.le_refl _) w423) w422 (by decide) rfl (by omega) jmw_X9_back jmv_X9_back jmn_X9_back (idx := 159) (jW_of 1303 (by decide +kernel) rfl) (Nat.le_of_ble_eq_true rfl) (by decide +kernel)) ?_
      obtain ⟨w425, H⟩ := jgd_ok H
      refine jS.adv O [(.aload_n 2, 0, 0, 0, 0, 0, 0)] (pc' := 1298) (ls' := [(0, .inr (.inr y0)), (1, .inr (.inr y1)), (2, .inr (.inr y2)), (3, .inl y3)]) (st' := [.inr (.inr y2), .inl t424.1]) (m2 := t424.2) (by decide +kernel) rfl trivial ?_
      obtain ⟨t427, w426, H⟩ := jb_ok H
      refine jS.step (c' := (1301, [(0, .inr (.inr y0)), (1, .inr (.inr y1)), (2, .inr (.inr y2)), (3, .inl y3)], [.inl t427.1, .inl t424.1], t427.2)) (jSt.callV (c := 10) (As := []) (rest := [.inl t424.1]) O (ec_X10_back (d := 2) O (Nat.le_refl _) w426) w425 (by decide) rfl (by omega) jmw_X10_back jmv_X10_back jmn_X10_back (idx := 162) (jW_of 1989 (by decide +kernel) rfl) (Nat.le_of_ble_eq_true rfl) (by decide +kernel)) ?_
      refine jS.br (i := .if_icmp .eq 337) (P := t424.1 = t427.1) (rest := []) rfl (by decide +kernel) (tgt := 1638) (by decide) (fun c428 => ?_) (fun c428 => ?_)
      · replace H := jif_t c428 H
        refine jS.adv O [(.iinc 3 6, 0, 0, 0, 0, (6 : Int32), 0), (.goto (-1623), 0, 18, 0, 0, 0, 0)] (pc' := 18) (ls' := [(3, .inl (y3 + (6 : Int32))), (0, .inr (.inr y0)), (1, .inr (.inr y1)), (2, .inr (.inr y2))]) (st' := []) (m2 := t427.2) (by decide +kernel) rfl trivial ?_
        refine jS.loc' [1, 2, 3, 0] (ls' := [(0, .inr (.inr y0)), (1, .inr (.inr y1)), (2, .inr (.inr y2)), (3, .inl (y3 + (6 : Int32)))]) rfl ?_
        exact hB _ _ _ _ _ _ H h1 h2
      · replace H := jif_f c428 H
        refine jS.adv O [(.iconst 0, 0, 0, 0, 0, (0 : Int32), 0)] (pc' := 1305) (ls' := [(0, .inr (.inr y0)), (1, .inr (.inr y1)), (2, .inr (.inr y2)), (3, .inl y3)]) (st' := [.inl (0 : Int32)]) (m2 := t427.2) (by decide +kernel) rfl trivial ?_
        replace H := Option.some.inj H
        subst H
        obtain ⟨q1, q2⟩ := h1 _ rfl
        subst q1; subst q2
        exact jS.zret rfl (Or.inl rfl) (by decide +kernel)
    replace H := jif_f c421 H
    by_cases c429 : ((jI m y0 y3.toNatClampNeg) &&& (63 : Int32)) = (34 : Int32)
    · replace H := jif_t c429 H
      refine jS.tswIn (dflt := 1605) (lo := 0) (hi := 40) (offs := #[179, 212, 275, 308, 341, 384, 427, 461, 494, 517, 540, 563, 576, 599, 633, 657, 671, 685, 748, 772, 805, 849, 893, 927, 950, 973, 1007, 1031, 1094, 1117, 1181, 1214, 1247, 1260, 1273, 1296, 1339, 1412, 1446, 1509, 1572]) (off := 1273) c429 (len := 179) (tgt := 1306) (by decide +kernel) (by decide) (by decide) rfl (by decide) ?_
      obtain ⟨w430, H⟩ := jgd_ok H
      obtain ⟨w431, H⟩ := jgd_ok H
      refine jS.adv O [(.aload_n 1, 0, 0, 0, 0, 0, 0), (.aload_n 0, 0, 0, 0, 0, 0, 0), (.iload_n 3, 0, 0, 0, 0, 0, 0), (.iconst 1, 0, 0, 0, 0, (1 : Int32), 0), (.iadd, 0, 0, 0, 0, 0, 0), (.iaload, 0, 8, 0, 0, 0, 0)] (pc' := 1312) (ls' := [(0, .inr (.inr y0)), (1, .inr (.inr y1)), (2, .inr (.inr y2)), (3, .inl y3)]) (st' := [.inl (jI m y0 (y3 + (1 : Int32)).toNatClampNeg), .inr (.inr y1)]) (m2 := m) (by decide +kernel) rfl ⟨⟨w7, jib_ok w430⟩, trivial⟩ ?_
      obtain ⟨t433, w432, H⟩ := jb_ok H
      refine jS.step (c' := (1315, [(0, .inr (.inr y0)), (1, .inr (.inr y1)), (2, .inr (.inr y2)), (3, .inl y3)], [.inl t433], m)) (jSt.callV (c := 9) (As := [.inl (jI m y0 (y3 + (1 : Int32)).toNatClampNeg)]) (rest := []) O (ec_X9_count (d := 4) O (Nat.le_refl _) w432) w431 (by decide) rfl (by omega) jmw_X9_count jmv_X9_count jmn_X9_count (idx := 163) (jW_of 1311 (by decide +kernel) rfl) (Nat.le_of_ble_eq_true rfl) (by decide +kernel)) ?_
      obtain ⟨w434, H⟩ := jgd_ok H
      obtain ⟨w435, H⟩ := jgd_ok H
      refine jS.adv O [(.aload_n 2, 0, 0, 0, 0, 0, 0), (.aload_n 0, 0, 0, 0, 0, 0, 0), (.iload_n 3, 0, 0, 0, 0, 0, 0), (.iconst 1, 0, 0, 0, 0, (1 : Int32), 0), (.iadd, 0, 0, 0, 0, 0, 0), (.iaload, 0, 8, 0, 0, 0, 0)] (pc' := 1321) (ls' := [(0, .inr (.inr y0)), (1, .inr (.inr y1)), (2, .inr (.inr y2)), (3, .inl y3)]) (st' := [.inl (jI m y0 (y3 + (1 : Int32)).toNatClampNeg), .inr (.inr y2), .inl t433]) (m2 := m) (by decide +kernel) rfl ⟨⟨w7, jib_ok w434⟩, trivial⟩ ?_
      obtain ⟨t437, w436, H⟩ := jb_ok H
      refine jS.step (c' := (1324, [(0, .inr (.inr y0)), (1, .inr (.inr y1)), (2, .inr (.inr y2)), (3, .inl y3)], [.inl t437, .inl t433], m)) (jSt.callV (c := 10) (As := [.inl (jI m y0 (y3 + (1 : Int32)).toNatClampNeg)]) (rest := [.inl t433]) O (ec_X10_count (d := 3) O (Nat.le_refl _) w436) w435 (by decide) rfl (by omega) jmw_X10_count jmv_X10_count jmn_X10_count (idx := 166) (jW_of 1993 (by decide +kernel) rfl) (Nat.le_of_ble_eq_true rfl) (by decide +kernel)) ?_
      refine jS.br (i := .if_icmp .eq 314) (P := t433 = t437) (rest := []) rfl (by decide +kernel) (tgt := 1638) (by decide) (fun c438 => ?_) (fun c438 => ?_)
      · replace H := jif_t c438 H
        refine jS.adv O [(.iinc 3 6, 0, 0, 0, 0, (6 : Int32), 0), (.goto (-1623), 0, 18, 0, 0, 0, 0)] (pc' := 18) (ls' := [(3, .inl (y3 + (6 : Int32))), (0, .inr (.inr y0)), (1, .inr (.inr y1)), (2, .inr (.inr y2))]) (st' := []) (m2 := m) (by decide +kernel) rfl trivial ?_
        refine jS.loc' [1, 2, 3, 0] (ls' := [(0, .inr (.inr y0)), (1, .inr (.inr y1)), (2, .inr (.inr y2)), (3, .inl (y3 + (6 : Int32)))]) rfl ?_
        exact hB _ _ _ _ _ _ H h1 h2
      · replace H := jif_f c438 H
        refine jS.adv O [(.iconst 0, 0, 0, 0, 0, (0 : Int32), 0)] (pc' := 1328) (ls' := [(0, .inr (.inr y0)), (1, .inr (.inr y1)), (2, .inr (.inr y2)), (3, .inl y3)]) (st' := [.inl (0 : Int32)]) (m2 := m) (by decide +kernel) rfl trivial ?_
        replace H := Option.some.inj H
        subst H
        obtain ⟨q1, q2⟩ := h1 _ rfl
        subst q1; subst q2
        exact jS.zret rfl (Or.inl rfl) (by decide +kernel)
    replace H := jif_f c429 H
    by_cases c439 : ((jI m y0 y3.toNatClampNeg) &&& (63 : Int32)) = (35 : Int32)
    · replace H := jif_t c439 H
      refine jS.tswIn (dflt := 1605) (lo := 0) (hi := 40) (offs := #[179, 212, 275, 308, 341, 384, 427, 461, 494, 517, 540, 563, 576, 599, 633, 657, 671, 685, 748, 772, 805, 849, 893, 927, 950, 973, 1007, 1031, 1094, 1117, 1181, 1214, 1247, 1260, 1273, 1296, 1339, 1412, 1446, 1509, 1572]) (off := 1296) c439 (len := 179) (tgt := 1329) (by decide +kernel) (by decide) (by decide) rfl (by decide) ?_
      obtain ⟨w440, H⟩ := jgd_ok H
      obtain ⟨w441, H⟩ := jgd_ok H
      obtain ⟨w442, H⟩ := jgd_ok H
      obtain ⟨w443, H⟩ := jgd_ok H
      refine jS.adv O [(.aload_n 1, 0, 0, 0, 0, 0, 0), (.aload_n 0, 0, 0, 0, 0, 0, 0), (.iload_n 3, 0, 0, 0, 0, 0, 0), (.iconst 1, 0, 0, 0, 0, (1 : Int32), 0), (.iadd, 0, 0, 0, 0, 0, 0), (.iaload, 0, 8, 0, 0, 0, 0), (.aload_n 0, 0, 0, 0, 0, 0, 0), (.iload_n 3, 0, 0, 0, 0, 0, 0), (.iconst 2, 0, 0, 0, 0, (2 : Int32), 0), (.iadd, 0, 0, 0, 0, 0, 0), (.iaload, 0, 8, 0, 0, 0, 0), (.aload_n 0, 0, 0, 0, 0, 0, 0), (.iload_n 3, 0, 0, 0, 0, 0, 0), (.iconst 3, 0, 0, 0, 0, (3 : Int32), 0), (.iadd, 0, 0, 0, 0, 0, 0), (.iaload, 0, 8, 0, 0, 0, 0)] (pc' := 1345) (ls' := [(0, .inr (.inr y0)), (1, .inr (.inr y1)), (2, .inr (.inr y2)), (3, .inl y3)]) (st' := [.inl (jI m y0 (y3 + (3 : Int32)).toNatClampNeg), .inl (jI m y0 (y3 + (2 : Int32)).toNatClampNeg), .inl (jI m y0 (y3 + (1 : Int32)).toNatClampNeg), .inr (.inr y1)]) (m2 := m) (by decide +kernel) rfl ⟨⟨w7, jib_ok w440⟩, ⟨w7, jib_ok w441⟩, ⟨w7, jib_ok w442⟩, trivial⟩ ?_
      obtain ⟨t445, w444, H⟩ := jb_ok H
      refine jS.step (c' := (1348, [(0, .inr (.inr y0)), (1, .inr (.inr y1)), (2, .inr (.inr y2)), (3, .inl y3)], [.inl t445.1], t445.2)) (jSt.callV (c := 9) (As := [.inl (jI m y0 (y3 + (1 : Int32)).toNatClampNeg), .inl (jI m y0 (y3 + (2 : Int32)).toNatClampNeg), .inl (jI m y0 (y3 + (3 : Int32)).toNatClampNeg)]) (rest := []) O (ec_X9_sheet (d := 4) O (Nat.le_refl _) w444) w443 (by decide) rfl (by omega) jmw_X9_sheet jmv_X9_sheet jmn_X9_sheet (idx := 167) (jW_of 1319 (by decide +kernel) rfl) (Nat.le_of_ble_eq_true rfl) (by decide +kernel)) ?_
      obtain ⟨w446, H⟩ := jgd_ok H
      obtain ⟨w447, H⟩ := jgd_ok H
      obtain ⟨w448, H⟩ := jgd_ok H
      obtain ⟨w449, H⟩ := jgd_ok H
      obtain ⟨w450, H⟩ := jgd_ok H
      refine jS.adv O [(.aload_n 2, 0, 0, 0, 0, 0, 0), (.aload_n 0, 0, 0, 0, 0, 0, 0), (.iload_n 3, 0, 0, 0, 0, 0, 0), (.iconst 1, 0, 0, 0, 0, (1 : Int32), 0), (.iadd, 0, 0, 0, 0, 0, 0), (.iaload, 0, 8, 0, 0, 0, 0), (.aload_n 0, 0, 0, 0, 0, 0, 0), (.iload_n 3, 0, 0, 0, 0, 0, 0), (.iconst 2, 0, 0, 0, 0, (2 : Int32), 0), (.iadd, 0, 0, 0, 0, 0, 0), (.iaload, 0, 8, 0, 0, 0, 0), (.aload_n 0, 0, 0, 0, 0, 0, 0), (.iload_n 3, 0, 0, 0, 0, 0, 0), (.iconst 3, 0, 0, 0, 0, (3 : Int32), 0), (.iadd, 0, 0, 0, 0, 0, 0), (.iaload, 0, 8, 0, 0, 0, 0)] (pc' := 1364) (ls' := [(0, .inr (.inr y0)), (1, .inr (.inr y1)), (2, .inr (.inr y2)), (3, .inl y3)]) (st' := [.inl (jI t445.2 y0 (y3 + (3 : Int32)).toNatClampNeg), .inl (jI t445.2 y0 (y3 + (2 : Int32)).toNatClampNeg), .inl (jI t445.2 y0 (y3 + (1 : Int32)).toNatClampNeg), .inr (.inr y2), .inl t445.1]) (m2 := t445.2) (by decide +kernel) rfl ⟨⟨w446, jib_ok w447⟩, ⟨w446, jib_ok w448⟩, ⟨w446, jib_ok w449⟩, trivial⟩ ?_
      obtain ⟨t452, w451, H⟩ := jb_ok H
      refine jS.step (c' := (1367, [(0, .inr (.inr y0)), (1, .inr (.inr y1)), (2, .inr (.inr y2)), (3, .inl y3)], [.inl t452.1, .inl t445.1], t452.2)) (jSt.callV (c := 10) (As := [.inl (jI t445.2 y0 (y3 + (1 : Int32)).toNatClampNeg), .inl (jI t445.2 y0 (y3 + (2 : Int32)).toNatClampNeg), .inl (jI t445.2 y0 (y3 + (3 : Int32)).toNatClampNeg)]) (rest := [.inl t445.1]) O (ec_X10_sheet (d := 4) O (Nat.le_refl _) w451) w450 (by decide) rfl (by omega) jmw_X10_sheet jmv_X10_sheet jmn_X10_sheet (idx := 170) (jW_of 1997 (by decide +kernel) rfl) (Nat.le_of_ble_eq_true rfl) (by decide +kernel)) ?_
      refine jS.br (i := .if_icmp .eq 271) (P := t445.1 = t452.1) (rest := []) rfl (by decide +kernel) (tgt := 1638) (by decide) (fun c453 => ?_) (fun c453 => ?_)
      · replace H := jif_t c453 H
        refine jS.adv O [(.iinc 3 6, 0, 0, 0, 0, (6 : Int32), 0), (.goto (-1623), 0, 18, 0, 0, 0, 0)] (pc' := 18) (ls' := [(3, .inl (y3 + (6 : Int32))), (0, .inr (.inr y0)), (1, .inr (.inr y1)), (2, .inr (.inr y2))]) (st' := []) (m2 := t452.2) (by decide +kernel) rfl trivial ?_
        refine jS.loc' [1, 2, 3, 0] (ls' := [(0, .inr (.inr y0)), (1, .inr (.inr y1)), (2, .inr (.inr y2)), (3, .inl (y3 + (6 : Int32)))]) rfl ?_
        exact hB _ _ _ _ _ _ H h1 h2
      · replace H := jif_f c453 H
        refine jS.adv O [(.iconst 0, 0, 0, 0, 0, (0 : Int32), 0)] (pc' := 1371) (ls' := [(0, .inr (.inr y0)), (1, .inr (.inr y1)), (2, .inr (.inr y2)), (3, .inl y3)]) (st' := [.inl (0 : Int32)]) (m2 := t452.2) (by decide +kernel) rfl trivial ?_
        replace H := Option.some.inj H
        subst H
        obtain ⟨q1, q2⟩ := h1 _ rfl
        subst q1; subst q2
        exact jS.zret rfl (Or.inl rfl) (by decide +kernel)
    replace H := jif_f c439 H
    by_cases c454 : ((jI m y0 y3.toNatClampNeg) &&& (63 : Int32)) = (36 : Int32)
    · replace H := jif_t c454 H
      refine jS.tswIn (dflt := 1605) (lo := 0) (hi := 40) (offs := #[179, 212, 275, 308, 341, 384, 427, 461, 494, 517, 540, 563, 576, 599, 633, 657, 671, 685, 748, 772, 805, 849, 893, 927, 950, 973, 1007, 1031, 1094, 1117, 1181, 1214, 1247, 1260, 1273, 1296, 1339, 1412, 1446, 1509, 1572]) (off := 1339) c454 (len := 179) (tgt := 1372) (by decide +kernel) (by decide) (by decide) rfl (by decide) ?_
      obtain ⟨w455, H⟩ := jgd_ok H
      obtain ⟨w456, H⟩ := jgd_ok H
      obtain ⟨w457, H⟩ := jgd_ok H
      obtain ⟨w458, H⟩ := jgd_ok H
      obtain ⟨w459, H⟩ := jgd_ok H
      refine jS.adv O [(.aload_n 1, 0, 0, 0, 0, 0, 0), (.aload_n 0, 0, 0, 0, 0, 0, 0), (.iload_n 3, 0, 0, 0, 0, 0, 0), (.iconst 1, 0, 0, 0, 0, (1 : Int32), 0), (.iadd, 0, 0, 0, 0, 0, 0), (.iaload, 0, 8, 0, 0, 0, 0), (.aload_n 0, 0, 0, 0, 0, 0, 0), (.iload_n 3, 0, 0, 0, 0, 0, 0), (.iconst 2, 0, 0, 0, 0, (2 : Int32), 0), (.iadd, 0, 0, 0, 0, 0, 0), (.iaload, 0, 8, 0, 0, 0, 0), (.aload_n 0, 0, 0, 0, 0, 0, 0), (.iload_n 3, 0, 0, 0, 0, 0, 0), (.iconst 3, 0, 0, 0, 0, (3 : Int32), 0), (.iadd, 0, 0, 0, 0, 0, 0), (.iaload, 0, 8, 0, 0, 0, 0), (.i2l, 0, 0, 0, 0, 0, 0), (.bipush 32, 0, 0, 0, 0, (32 : Int32), 0), (.lshl, 0, 0, 0, 0, 0, 0), (.aload_n 0, 0, 0, 0, 0, 0, 0), (.iload_n 3, 0, 0, 0, 0, 0, 0), (.iconst 4, 0, 0, 0, 0, (4 : Int32), 0), (.iadd, 0, 0, 0, 0, 0, 0), (.iaload, 0, 8, 0, 0, 0, 0), (.i2l, 0, 0, 0, 0, 0, 0), (.ldc2_w 89, 0, 2019, 0, 0, 0, (4294967295 : Int64)), (.land, 0, 0, 0, 0, 0, 0), (.lor, 0, 0, 0, 0, 0, 0)] (pc' := 1403) (ls' := [(0, .inr (.inr y0)), (1, .inr (.inr y1)), (2, .inr (.inr y2)), (3, .inl y3)]) (st' := [.inr (.inl ((jlshl (Int32.toInt64 (jI m y0 (y3 + (3 : Int32)).toNatClampNeg)) (32 : Int32)) ||| ((Int32.toInt64 (jI m y0 (y3 + (4 : Int32)).toNatClampNeg)) &&& (4294967295 : Int64)))), .inl (jI m y0 (y3 + (2 : Int32)).toNatClampNeg), .inl (jI m y0 (y3 + (1 : Int32)).toNatClampNeg), .inr (.inr y1)]) (m2 := m) (by decide +kernel) rfl ⟨⟨w7, jib_ok w455⟩, ⟨w7, jib_ok w456⟩, ⟨w7, jib_ok w457⟩, ⟨w7, jib_ok w458⟩, trivial⟩ ?_
      obtain ⟨t461, w460, H⟩ := jb_ok H
      refine jS.step (c' := (1406, [(0, .inr (.inr y0)), (1, .inr (.inr y1)), (2, .inr (.inr y2)), (3, .inl y3)], [.inl t461.1], t461.2)) (jSt.callV (c := 9) (As := [.inl (jI m y0 (y3 + (1 : Int32)).toNatClampNeg), .inl (jI m y0 (y3 + (2 : Int32)).toNatClampNeg), .inr (.inl ((jlshl (Int32.toInt64 (jI m y0 (y3 + (3 : Int32)).toNatClampNeg)) (32 : Int32)) ||| ((Int32.toInt64 (jI m y0 (y3 + (4 : Int32)).toNatClampNeg)) &&& (4294967295 : Int64))))]) (rest := []) O (ec_X9_put (d := 3) O (Nat.le_refl _) w460) w459 (by decide) rfl (by omega) jmw_X9_put jmv_X9_put jmn_X9_put (idx := 171) (jW_of 1323 (by decide +kernel) rfl) (Nat.le_of_ble_eq_true rfl) (by decide +kernel)) ?_
      obtain ⟨w462, H⟩ := jgd_ok H
      obtain ⟨w463, H⟩ := jgd_ok H
      obtain ⟨w464, H⟩ := jgd_ok H
      obtain ⟨w465, H⟩ := jgd_ok H
      obtain ⟨w466, H⟩ := jgd_ok H
      obtain ⟨w467, H⟩ := jgd_ok H
      refine jS.adv O [(.aload_n 2, 0, 0, 0, 0, 0, 0), (.aload_n 0, 0, 0, 0, 0, 0, 0), (.iload_n 3, 0, 0, 0, 0, 0, 0), (.iconst 1, 0, 0, 0, 0, (1 : Int32), 0), (.iadd, 0, 0, 0, 0, 0, 0), (.iaload, 0, 8, 0, 0, 0, 0), (.aload_n 0, 0, 0, 0, 0, 0, 0), (.iload_n 3, 0, 0, 0, 0, 0, 0), (.iconst 2, 0, 0, 0, 0, (2 : Int32), 0), (.iadd, 0, 0, 0, 0, 0, 0), (.iaload, 0, 8, 0, 0, 0, 0), (.aload_n 0, 0, 0, 0, 0, 0, 0), (.iload_n 3, 0, 0, 0, 0, 0, 0), (.iconst 3, 0, 0, 0, 0, (3 : Int32), 0), (.iadd, 0, 0, 0, 0, 0, 0), (.iaload, 0, 8, 0, 0, 0, 0), (.i2l, 0, 0, 0, 0, 0, 0), (.bipush 32, 0, 0, 0, 0, (32 : Int32), 0), (.lshl, 0, 0, 0, 0, 0, 0), (.aload_n 0, 0, 0, 0, 0, 0, 0), (.iload_n 3, 0, 0, 0, 0, 0, 0), (.iconst 4, 0, 0, 0, 0, (4 : Int32), 0), (.iadd, 0, 0, 0, 0, 0, 0), (.iaload, 0, 8, 0, 0, 0, 0), (.i2l, 0, 0, 0, 0, 0, 0), (.ldc2_w 89, 0, 2019, 0, 0, 0, (4294967295 : Int64)), (.land, 0, 0, 0, 0, 0, 0), (.lor, 0, 0, 0, 0, 0, 0)] (pc' := 1437) (ls' := [(0, .inr (.inr y0)), (1, .inr (.inr y1)), (2, .inr (.inr y2)), (3, .inl y3)]) (st' := [.inr (.inl ((jlshl (Int32.toInt64 (jI t461.2 y0 (y3 + (3 : Int32)).toNatClampNeg)) (32 : Int32)) ||| ((Int32.toInt64 (jI t461.2 y0 (y3 + (4 : Int32)).toNatClampNeg)) &&& (4294967295 : Int64)))), .inl (jI t461.2 y0 (y3 + (2 : Int32)).toNatClampNeg), .inl (jI t461.2 y0 (y3 + (1 : Int32)).toNatClampNeg), .inr (.inr y2), .inl t461.1]) (m2 := t461.2) (by decide +kernel) rfl ⟨⟨w462, jib_ok w463⟩, ⟨w462, jib_ok w464⟩, ⟨w462, jib_ok w465⟩, ⟨w462, jib_ok w466⟩, trivial⟩ ?_
      obtain ⟨t469, w468, H⟩ := jb_ok H
      refine jS.step (c' := (1440, [(0, .inr (.inr y0)), (1, .inr (.inr y1)), (2, .inr (.inr y2)), (3, .inl y3)], [.inl t469.1, .inl t461.1], t469.2)) (jSt.callV (c := 10) (As := [.inl (jI t461.2 y0 (y3 + (1 : Int32)).toNatClampNeg), .inl (jI t461.2 y0 (y3 + (2 : Int32)).toNatClampNeg), .inr (.inl ((jlshl (Int32.toInt64 (jI t461.2 y0 (y3 + (3 : Int32)).toNatClampNeg)) (32 : Int32)) ||| ((Int32.toInt64 (jI t461.2 y0 (y3 + (4 : Int32)).toNatClampNeg)) &&& (4294967295 : Int64))))]) (rest := [.inl t461.1]) O (ec_X10_put (d := 4) O (Nat.le_refl _) w468) w467 (by decide) rfl (by omega) jmw_X10_put jmv_X10_put jmn_X10_put (idx := 175) (jW_of 1998 (by decide +kernel) rfl) (Nat.le_of_ble_eq_true rfl) (by decide +kernel)) ?_
      refine jS.br (i := .if_icmp .eq 198) (P := t461.1 = t469.1) (rest := []) rfl (by decide +kernel) (tgt := 1638) (by decide) (fun c470 => ?_) (fun c470 => ?_)
      · replace H := jif_t c470 H
        refine jS.adv O [(.iinc 3 6, 0, 0, 0, 0, (6 : Int32), 0), (.goto (-1623), 0, 18, 0, 0, 0, 0)] (pc' := 18) (ls' := [(3, .inl (y3 + (6 : Int32))), (0, .inr (.inr y0)), (1, .inr (.inr y1)), (2, .inr (.inr y2))]) (st' := []) (m2 := t469.2) (by decide +kernel) rfl trivial ?_
        refine jS.loc' [1, 2, 3, 0] (ls' := [(0, .inr (.inr y0)), (1, .inr (.inr y1)), (2, .inr (.inr y2)), (3, .inl (y3 + (6 : Int32)))]) rfl ?_
        exact hB _ _ _ _ _ _ H h1 h2
      · replace H := jif_f c470 H
        refine jS.adv O [(.iconst 0, 0, 0, 0, 0, (0 : Int32), 0)] (pc' := 1444) (ls' := [(0, .inr (.inr y0)), (1, .inr (.inr y1)), (2, .inr (.inr y2)), (3, .inl y3)]) (st' := [.inl (0 : Int32)]) (m2 := t469.2) (by decide +kernel) rfl trivial ?_
        replace H := Option.some.inj H
        subst H
        obtain ⟨q1, q2⟩ := h1 _ rfl
        subst q1; subst q2
        exact jS.zret rfl (Or.inl rfl) (by decide +kernel)
    replace H := jif_f c454 H
    by_cases c471 : ((jI m y0 y3.toNatClampNeg) &&& (63 : Int32)) = (37 : Int32)
    · replace H := jif_t c471 H
      refine jS.tswIn (dflt := 1605) (lo := 0) (hi := 40) (offs := #[179, 212, 275, 308, 341, 384, 427, 461, 494, 517, 540, 563, 576, 599, 633, 657, 671, 685, 748, 772, 805, 849, 893, 927, 950, 973, 1007, 1031, 1094, 1117, 1181, 1214, 1247, 1260, 1273, 1296, 1339, 1412, 1446, 1509, 1572]) (off := 1412) c471 (len := 179) (tgt := 1445) (by decide +kernel) (by decide) (by decide) rfl (by decide) ?_
      obtain ⟨w472, H⟩ := jgd_ok H
      obtain ⟨w473, H⟩ := jgd_ok H
      obtain ⟨w474, H⟩ := jgd_ok H
      refine jS.adv O [(.aload_n 1, 0, 0, 0, 0, 0, 0), (.aload_n 0, 0, 0, 0, 0, 0, 0), (.iload_n 3, 0, 0, 0, 0, 0, 0), (.iconst 1, 0, 0, 0, 0, (1 : Int32), 0), (.iadd, 0, 0, 0, 0, 0, 0), (.iaload, 0, 8, 0, 0, 0, 0), (.aload_n 0, 0, 0, 0, 0, 0, 0), (.iload_n 3, 0, 0, 0, 0, 0, 0), (.iconst 2, 0, 0, 0, 0, (2 : Int32), 0), (.iadd, 0, 0, 0, 0, 0, 0), (.iaload, 0, 8, 0, 0, 0, 0)] (pc' := 1456) (ls' := [(0, .inr (.inr y0)), (1, .inr (.inr y1)), (2, .inr (.inr y2)), (3, .inl y3)]) (st' := [.inl (jI m y0 (y3 + (2 : Int32)).toNatClampNeg), .inl (jI m y0 (y3 + (1 : Int32)).toNatClampNeg), .inr (.inr y1)]) (m2 := m) (by decide +kernel) rfl ⟨⟨w7, jib_ok w472⟩, ⟨w7, jib_ok w473⟩, trivial⟩ ?_
      obtain ⟨t476, w475, H⟩ := jb_ok H
      refine jS.step (c' := (1459, [(0, .inr (.inr y0)), (1, .inr (.inr y1)), (2, .inr (.inr y2)), (3, .inl y3)], [.inr (.inl t476)], m)) (jSt.callV (c := 9) (As := [.inl (jI m y0 (y3 + (1 : Int32)).toNatClampNeg), .inl (jI m y0 (y3 + (2 : Int32)).toNatClampNeg)]) (rest := []) O (ec_X9_item (d := 3) O (Nat.le_refl _) w475) w474 (by decide) rfl (by omega) jmw_X9_item jmv_X9_item jmn_X9_item (idx := 176) (jW_of 1331 (by decide +kernel) rfl) (Nat.le_of_ble_eq_true rfl) (by decide +kernel)) ?_
      obtain ⟨w477, H⟩ := jgd_ok H
      obtain ⟨w478, H⟩ := jgd_ok H
      obtain ⟨w479, H⟩ := jgd_ok H
      refine jS.adv O [(.aload_n 2, 0, 0, 0, 0, 0, 0), (.aload_n 0, 0, 0, 0, 0, 0, 0), (.iload_n 3, 0, 0, 0, 0, 0, 0), (.iconst 1, 0, 0, 0, 0, (1 : Int32), 0), (.iadd, 0, 0, 0, 0, 0, 0), (.iaload, 0, 8, 0, 0, 0, 0), (.aload_n 0, 0, 0, 0, 0, 0, 0), (.iload_n 3, 0, 0, 0, 0, 0, 0), (.iconst 2, 0, 0, 0, 0, (2 : Int32), 0), (.iadd, 0, 0, 0, 0, 0, 0), (.iaload, 0, 8, 0, 0, 0, 0)] (pc' := 1470) (ls' := [(0, .inr (.inr y0)), (1, .inr (.inr y1)), (2, .inr (.inr y2)), (3, .inl y3)]) (st' := [.inl (jI m y0 (y3 + (2 : Int32)).toNatClampNeg), .inl (jI m y0 (y3 + (1 : Int32)).toNatClampNeg), .inr (.inr y2), .inr (.inl t476)]) (m2 := m) (by decide +kernel) rfl ⟨⟨w7, jib_ok w477⟩, ⟨w7, jib_ok w478⟩, trivial⟩ ?_
      obtain ⟨t481, w480, H⟩ := jb_ok H
      refine jS.step (c' := (1473, [(0, .inr (.inr y0)), (1, .inr (.inr y1)), (2, .inr (.inr y2)), (3, .inl y3)], [.inr (.inl t481), .inr (.inl t476)], m)) (jSt.callV (c := 10) (As := [.inl (jI m y0 (y3 + (1 : Int32)).toNatClampNeg), .inl (jI m y0 (y3 + (2 : Int32)).toNatClampNeg)]) (rest := [.inr (.inl t476)]) O (ec_X10_item (d := 4) O (Nat.le_refl _) w480) w479 (by decide) rfl (by omega) jmw_X10_item jmv_X10_item jmn_X10_item (idx := 179) (jW_of 2002 (by decide +kernel) rfl) (Nat.le_of_ble_eq_true rfl) (by decide +kernel)) ?_
      refine jS.adv O [(.lcmp, 0, 0, 0, 0, 0, 0)] (pc' := 1474) (ls' := [(0, .inr (.inr y0)), (1, .inr (.inr y1)), (2, .inr (.inr y2)), (3, .inl y3)]) (st' := [.inl (lg_cmp t476 t481)]) (m2 := m) (by decide +kernel) rfl trivial ?_
      refine jS.br (i := .ifCond .eq 164) (P := (lg_cmp t476 t481) = 0) (rest := []) rfl (by decide +kernel) (tgt := 1638) (by decide) (fun c482 => ?_) (fun c482 => ?_)
      · replace H := jif_t c482 H
        refine jS.adv O [(.iinc 3 6, 0, 0, 0, 0, (6 : Int32), 0), (.goto (-1623), 0, 18, 0, 0, 0, 0)] (pc' := 18) (ls' := [(3, .inl (y3 + (6 : Int32))), (0, .inr (.inr y0)), (1, .inr (.inr y1)), (2, .inr (.inr y2))]) (st' := []) (m2 := m) (by decide +kernel) rfl trivial ?_
        refine jS.loc' [1, 2, 3, 0] (ls' := [(0, .inr (.inr y0)), (1, .inr (.inr y1)), (2, .inr (.inr y2)), (3, .inl (y3 + (6 : Int32)))]) rfl ?_
        exact hB _ _ _ _ _ _ H h1 h2
      · replace H := jif_f c482 H
        refine jS.adv O [(.iconst 0, 0, 0, 0, 0, (0 : Int32), 0)] (pc' := 1478) (ls' := [(0, .inr (.inr y0)), (1, .inr (.inr y1)), (2, .inr (.inr y2)), (3, .inl y3)]) (st' := [.inl (0 : Int32)]) (m2 := m) (by decide +kernel) rfl trivial ?_
        replace H := Option.some.inj H
        subst H
        obtain ⟨q1, q2⟩ := h1 _ rfl
        subst q1; subst q2
        exact jS.zret rfl (Or.inl rfl) (by decide +kernel)
    replace H := jif_f c471 H
    by_cases c483 : ((jI m y0 y3.toNatClampNeg) &&& (63 : Int32)) = (38 : Int32)
    · replace H := jif_t c483 H
      refine jS.tswIn (dflt := 1605) (lo := 0) (hi := 40) (offs := #[179, 212, 275, 308, 341, 384, 427, 461, 494, 517, 540, 563, 576, 599, 633, 657, 671, 685, 748, 772, 805, 849, 893, 927, 950, 973, 1007, 1031, 1094, 1117, 1181, 1214, 1247, 1260, 1273, 1296, 1339, 1412, 1446, 1509, 1572]) (off := 1446) c483 (len := 179) (tgt := 1479) (by decide +kernel) (by decide) (by decide) rfl (by decide) ?_
      obtain ⟨w484, H⟩ := jgd_ok H
      obtain ⟨w485, H⟩ := jgd_ok H
      obtain ⟨w486, H⟩ := jgd_ok H
      obtain ⟨w487, H⟩ := jgd_ok H
      obtain ⟨w488, H⟩ := jgd_ok H
      obtain ⟨w489, H⟩ := jgd_ok H
      refine jS.adv O [(.aload_n 1, 0, 0, 0, 0, 0, 0), (.aload_n 0, 0, 0, 0, 0, 0, 0), (.iload_n 3, 0, 0, 0, 0, 0, 0), (.iconst 1, 0, 0, 0, 0, (1 : Int32), 0), (.iadd, 0, 0, 0, 0, 0, 0), (.iaload, 0, 8, 0, 0, 0, 0), (.aload_n 0, 0, 0, 0, 0, 0, 0), (.iload_n 3, 0, 0, 0, 0, 0, 0), (.iconst 2, 0, 0, 0, 0, (2 : Int32), 0), (.iadd, 0, 0, 0, 0, 0, 0), (.iaload, 0, 8, 0, 0, 0, 0), (.aload_n 0, 0, 0, 0, 0, 0, 0), (.iload_n 3, 0, 0, 0, 0, 0, 0), (.iconst 3, 0, 0, 0, 0, (3 : Int32), 0), (.iadd, 0, 0, 0, 0, 0, 0), (.iaload, 0, 8, 0, 0, 0, 0), (.aload_n 0, 0, 0, 0, 0, 0, 0), (.iload_n 3, 0, 0, 0, 0, 0, 0), (.iconst 4, 0, 0, 0, 0, (4 : Int32), 0), (.iadd, 0, 0, 0, 0, 0, 0), (.iaload, 0, 8, 0, 0, 0, 0), (.aload_n 0, 0, 0, 0, 0, 0, 0), (.iload_n 3, 0, 0, 0, 0, 0, 0), (.iconst 5, 0, 0, 0, 0, (5 : Int32), 0), (.iadd, 0, 0, 0, 0, 0, 0), (.iaload, 0, 8, 0, 0, 0, 0)] (pc' := 1505) (ls' := [(0, .inr (.inr y0)), (1, .inr (.inr y1)), (2, .inr (.inr y2)), (3, .inl y3)]) (st' := [.inl (jI m y0 (y3 + (5 : Int32)).toNatClampNeg), .inl (jI m y0 (y3 + (4 : Int32)).toNatClampNeg), .inl (jI m y0 (y3 + (3 : Int32)).toNatClampNeg), .inl (jI m y0 (y3 + (2 : Int32)).toNatClampNeg), .inl (jI m y0 (y3 + (1 : Int32)).toNatClampNeg), .inr (.inr y1)]) (m2 := m) (by decide +kernel) rfl ⟨⟨w7, jib_ok w484⟩, ⟨w7, jib_ok w485⟩, ⟨w7, jib_ok w486⟩, ⟨w7, jib_ok w487⟩, ⟨w7, jib_ok w488⟩, trivial⟩ ?_
      obtain ⟨t491, w490, H⟩ := jb_ok H
      refine jS.step (c' := (1508, [(0, .inr (.inr y0)), (1, .inr (.inr y1)), (2, .inr (.inr y2)), (3, .inl y3)], [.inl t491.1], t491.2)) (jSt.callV (c := 9) (As := [.inl (jI m y0 (y3 + (1 : Int32)).toNatClampNeg), .inl (jI m y0 (y3 + (2 : Int32)).toNatClampNeg), .inl (jI m y0 (y3 + (3 : Int32)).toNatClampNeg), .inl (jI m y0 (y3 + (4 : Int32)).toNatClampNeg), .inl (jI m y0 (y3 + (5 : Int32)).toNatClampNeg)]) (rest := []) O (ec_X9_copy (d := 3) O (Nat.le_refl _) w490) w489 (by decide) rfl (by omega) jmw_X9_copy jmv_X9_copy jmn_X9_copy (idx := 180) (jW_of 1335 (by decide +kernel) rfl) (Nat.le_of_ble_eq_true rfl) (by decide +kernel)) ?_
      obtain ⟨w492, H⟩ := jgd_ok H
      obtain ⟨w493, H⟩ := jgd_ok H
      obtain ⟨w494, H⟩ := jgd_ok H
      obtain ⟨w495, H⟩ := jgd_ok H
      obtain ⟨w496, H⟩ := jgd_ok H
      obtain ⟨w497, H⟩ := jgd_ok H
      obtain ⟨w498, H⟩ := jgd_ok H
      refine jS.adv O [(.aload_n 2, 0, 0, 0, 0, 0, 0), (.aload_n 0, 0, 0, 0, 0, 0, 0), (.iload_n 3, 0, 0, 0, 0, 0, 0), (.iconst 1, 0, 0, 0, 0, (1 : Int32), 0), (.iadd, 0, 0, 0, 0, 0, 0), (.iaload, 0, 8, 0, 0, 0, 0), (.aload_n 0, 0, 0, 0, 0, 0, 0), (.iload_n 3, 0, 0, 0, 0, 0, 0), (.iconst 2, 0, 0, 0, 0, (2 : Int32), 0), (.iadd, 0, 0, 0, 0, 0, 0), (.iaload, 0, 8, 0, 0, 0, 0), (.aload_n 0, 0, 0, 0, 0, 0, 0), (.iload_n 3, 0, 0, 0, 0, 0, 0), (.iconst 3, 0, 0, 0, 0, (3 : Int32), 0), (.iadd, 0, 0, 0, 0, 0, 0), (.iaload, 0, 8, 0, 0, 0, 0), (.aload_n 0, 0, 0, 0, 0, 0, 0), (.iload_n 3, 0, 0, 0, 0, 0, 0), (.iconst 4, 0, 0, 0, 0, (4 : Int32), 0), (.iadd, 0, 0, 0, 0, 0, 0), (.iaload, 0, 8, 0, 0, 0, 0), (.aload_n 0, 0, 0, 0, 0, 0, 0), (.iload_n 3, 0, 0, 0, 0, 0, 0), (.iconst 5, 0, 0, 0, 0, (5 : Int32), 0), (.iadd, 0, 0, 0, 0, 0, 0), (.iaload, 0, 8, 0, 0, 0, 0)] (pc' := 1534) (ls' := [(0, .inr (.inr y0)), (1, .inr (.inr y1)), (2, .inr (.inr y2)), (3, .inl y3)]) (st' := [.inl (jI t491.2 y0 (y3 + (5 : Int32)).toNatClampNeg), .inl (jI t491.2 y0 (y3 + (4 : Int32)).toNatClampNeg), .inl (jI t491.2 y0 (y3 + (3 : Int32)).toNatClampNeg), .inl (jI t491.2 y0 (y3 + (2 : Int32)).toNatClampNeg), .inl (jI t491.2 y0 (y3 + (1 : Int32)).toNatClampNeg), .inr (.inr y2), .inl t491.1]) (m2 := t491.2) (by decide +kernel) rfl ⟨⟨w492, jib_ok w493⟩, ⟨w492, jib_ok w494⟩, ⟨w492, jib_ok w495⟩, ⟨w492, jib_ok w496⟩, ⟨w492, jib_ok w497⟩, trivial⟩ ?_
      obtain ⟨t500, w499, H⟩ := jb_ok H
      refine jS.step (c' := (1537, [(0, .inr (.inr y0)), (1, .inr (.inr y1)), (2, .inr (.inr y2)), (3, .inl y3)], [.inl t500.1, .inl t491.1], t500.2)) (jSt.callV (c := 10) (As := [.inl (jI t491.2 y0 (y3 + (1 : Int32)).toNatClampNeg), .inl (jI t491.2 y0 (y3 + (2 : Int32)).toNatClampNeg), .inl (jI t491.2 y0 (y3 + (3 : Int32)).toNatClampNeg), .inl (jI t491.2 y0 (y3 + (4 : Int32)).toNatClampNeg), .inl (jI t491.2 y0 (y3 + (5 : Int32)).toNatClampNeg)]) (rest := [.inl t491.1]) O (ec_X10_copy (d := 4) O (Nat.le_refl _) w499) w498 (by decide) rfl (by omega) jmw_X10_copy jmv_X10_copy jmn_X10_copy (idx := 183) (jW_of 2006 (by decide +kernel) rfl) (Nat.le_of_ble_eq_true rfl) (by decide +kernel)) ?_
      refine jS.br (i := .if_icmp .eq 101) (P := t491.1 = t500.1) (rest := []) rfl (by decide +kernel) (tgt := 1638) (by decide) (fun c501 => ?_) (fun c501 => ?_)
      · replace H := jif_t c501 H
        refine jS.adv O [(.iinc 3 6, 0, 0, 0, 0, (6 : Int32), 0), (.goto (-1623), 0, 18, 0, 0, 0, 0)] (pc' := 18) (ls' := [(3, .inl (y3 + (6 : Int32))), (0, .inr (.inr y0)), (1, .inr (.inr y1)), (2, .inr (.inr y2))]) (st' := []) (m2 := t500.2) (by decide +kernel) rfl trivial ?_
        refine jS.loc' [1, 2, 3, 0] (ls' := [(0, .inr (.inr y0)), (1, .inr (.inr y1)), (2, .inr (.inr y2)), (3, .inl (y3 + (6 : Int32)))]) rfl ?_
        exact hB _ _ _ _ _ _ H h1 h2
      · replace H := jif_f c501 H
        refine jS.adv O [(.iconst 0, 0, 0, 0, 0, (0 : Int32), 0)] (pc' := 1541) (ls' := [(0, .inr (.inr y0)), (1, .inr (.inr y1)), (2, .inr (.inr y2)), (3, .inl y3)]) (st' := [.inl (0 : Int32)]) (m2 := t500.2) (by decide +kernel) rfl trivial ?_
        replace H := Option.some.inj H
        subst H
        obtain ⟨q1, q2⟩ := h1 _ rfl
        subst q1; subst q2
        exact jS.zret rfl (Or.inl rfl) (by decide +kernel)
    replace H := jif_f c483 H
    by_cases c502 : ((jI m y0 y3.toNatClampNeg) &&& (63 : Int32)) = (39 : Int32)
    · replace H := jif_t c502 H
      refine jS.tswIn (dflt := 1605) (lo := 0) (hi := 40) (offs := #[179, 212, 275, 308, 341, 384, 427, 461, 494, 517, 540, 563, 576, 599, 633, 657, 671, 685, 748, 772, 805, 849, 893, 927, 950, 973, 1007, 1031, 1094, 1117, 1181, 1214, 1247, 1260, 1273, 1296, 1339, 1412, 1446, 1509, 1572]) (off := 1509) c502 (len := 179) (tgt := 1542) (by decide +kernel) (by decide) (by decide) rfl (by decide) ?_
      obtain ⟨w503, H⟩ := jgd_ok H
      obtain ⟨w504, H⟩ := jgd_ok H
      obtain ⟨w505, H⟩ := jgd_ok H
      obtain ⟨w506, H⟩ := jgd_ok H
      obtain ⟨w507, H⟩ := jgd_ok H
      obtain ⟨w508, H⟩ := jgd_ok H
      refine jS.adv O [(.aload_n 1, 0, 0, 0, 0, 0, 0), (.aload_n 0, 0, 0, 0, 0, 0, 0), (.iload_n 3, 0, 0, 0, 0, 0, 0), (.iconst 1, 0, 0, 0, 0, (1 : Int32), 0), (.iadd, 0, 0, 0, 0, 0, 0), (.iaload, 0, 8, 0, 0, 0, 0), (.aload_n 0, 0, 0, 0, 0, 0, 0), (.iload_n 3, 0, 0, 0, 0, 0, 0), (.iconst 2, 0, 0, 0, 0, (2 : Int32), 0), (.iadd, 0, 0, 0, 0, 0, 0), (.iaload, 0, 8, 0, 0, 0, 0), (.aload_n 0, 0, 0, 0, 0, 0, 0), (.iload_n 3, 0, 0, 0, 0, 0, 0), (.iconst 3, 0, 0, 0, 0, (3 : Int32), 0), (.iadd, 0, 0, 0, 0, 0, 0), (.iaload, 0, 8, 0, 0, 0, 0), (.aload_n 0, 0, 0, 0, 0, 0, 0), (.iload_n 3, 0, 0, 0, 0, 0, 0), (.iconst 4, 0, 0, 0, 0, (4 : Int32), 0), (.iadd, 0, 0, 0, 0, 0, 0), (.iaload, 0, 8, 0, 0, 0, 0), (.aload_n 0, 0, 0, 0, 0, 0, 0), (.iload_n 3, 0, 0, 0, 0, 0, 0), (.iconst 5, 0, 0, 0, 0, (5 : Int32), 0), (.iadd, 0, 0, 0, 0, 0, 0), (.iaload, 0, 8, 0, 0, 0, 0)] (pc' := 1568) (ls' := [(0, .inr (.inr y0)), (1, .inr (.inr y1)), (2, .inr (.inr y2)), (3, .inl y3)]) (st' := [.inl (jI m y0 (y3 + (5 : Int32)).toNatClampNeg), .inl (jI m y0 (y3 + (4 : Int32)).toNatClampNeg), .inl (jI m y0 (y3 + (3 : Int32)).toNatClampNeg), .inl (jI m y0 (y3 + (2 : Int32)).toNatClampNeg), .inl (jI m y0 (y3 + (1 : Int32)).toNatClampNeg), .inr (.inr y1)]) (m2 := m) (by decide +kernel) rfl ⟨⟨w7, jib_ok w503⟩, ⟨w7, jib_ok w504⟩, ⟨w7, jib_ok w505⟩, ⟨w7, jib_ok w506⟩, ⟨w7, jib_ok w507⟩, trivial⟩ ?_
      obtain ⟨t510, w509, H⟩ := jb_ok H
      refine jS.step (c' := (1571, [(0, .inr (.inr y0)), (1, .inr (.inr y1)), (2, .inr (.inr y2)), (3, .inl y3)], [.inl t510.1], t510.2)) (jSt.callV (c := 9) (As := [.inl (jI m y0 (y3 + (1 : Int32)).toNatClampNeg), .inl (jI m y0 (y3 + (2 : Int32)).toNatClampNeg), .inl (jI m y0 (y3 + (3 : Int32)).toNatClampNeg), .inl (jI m y0 (y3 + (4 : Int32)).toNatClampNeg), .inl (jI m y0 (y3 + (5 : Int32)).toNatClampNeg)]) (rest := []) O (ec_X9_load (d := 8) O (Nat.le_refl _) w509) w508 (by decide) rfl (by omega) jmw_X9_load jmv_X9_load jmn_X9_load (idx := 184) (jW_of 1344 (by decide +kernel) rfl) (Nat.le_of_ble_eq_true rfl) (by decide +kernel)) ?_
      obtain ⟨w511, H⟩ := jgd_ok H
      obtain ⟨w512, H⟩ := jgd_ok H
      obtain ⟨w513, H⟩ := jgd_ok H
      obtain ⟨w514, H⟩ := jgd_ok H
      obtain ⟨w515, H⟩ := jgd_ok H
      obtain ⟨w516, H⟩ := jgd_ok H
      obtain ⟨w517, H⟩ := jgd_ok H
      refine jS.adv O [(.aload_n 2, 0, 0, 0, 0, 0, 0), (.aload_n 0, 0, 0, 0, 0, 0, 0), (.iload_n 3, 0, 0, 0, 0, 0, 0), (.iconst 1, 0, 0, 0, 0, (1 : Int32), 0), (.iadd, 0, 0, 0, 0, 0, 0), (.iaload, 0, 8, 0, 0, 0, 0), (.aload_n 0, 0, 0, 0, 0, 0, 0), (.iload_n 3, 0, 0, 0, 0, 0, 0), (.iconst 2, 0, 0, 0, 0, (2 : Int32), 0), (.iadd, 0, 0, 0, 0, 0, 0), (.iaload, 0, 8, 0, 0, 0, 0), (.aload_n 0, 0, 0, 0, 0, 0, 0), (.iload_n 3, 0, 0, 0, 0, 0, 0), (.iconst 3, 0, 0, 0, 0, (3 : Int32), 0), (.iadd, 0, 0, 0, 0, 0, 0), (.iaload, 0, 8, 0, 0, 0, 0), (.aload_n 0, 0, 0, 0, 0, 0, 0), (.iload_n 3, 0, 0, 0, 0, 0, 0), (.iconst 4, 0, 0, 0, 0, (4 : Int32), 0), (.iadd, 0, 0, 0, 0, 0, 0), (.iaload, 0, 8, 0, 0, 0, 0), (.aload_n 0, 0, 0, 0, 0, 0, 0), (.iload_n 3, 0, 0, 0, 0, 0, 0), (.iconst 5, 0, 0, 0, 0, (5 : Int32), 0), (.iadd, 0, 0, 0, 0, 0, 0), (.iaload, 0, 8, 0, 0, 0, 0)] (pc' := 1597) (ls' := [(0, .inr (.inr y0)), (1, .inr (.inr y1)), (2, .inr (.inr y2)), (3, .inl y3)]) (st' := [.inl (jI t510.2 y0 (y3 + (5 : Int32)).toNatClampNeg), .inl (jI t510.2 y0 (y3 + (4 : Int32)).toNatClampNeg), .inl (jI t510.2 y0 (y3 + (3 : Int32)).toNatClampNeg), .inl (jI t510.2 y0 (y3 + (2 : Int32)).toNatClampNeg), .inl (jI t510.2 y0 (y3 + (1 : Int32)).toNatClampNeg), .inr (.inr y2), .inl t510.1]) (m2 := t510.2) (by decide +kernel) rfl ⟨⟨w511, jib_ok w512⟩, ⟨w511, jib_ok w513⟩, ⟨w511, jib_ok w514⟩, ⟨w511, jib_ok w515⟩, ⟨w511, jib_ok w516⟩, trivial⟩ ?_
      obtain ⟨t519, w518, H⟩ := jb_ok H
      refine jS.step (c' := (1600, [(0, .inr (.inr y0)), (1, .inr (.inr y1)), (2, .inr (.inr y2)), (3, .inl y3)], [.inl t519.1, .inl t510.1], t519.2)) (jSt.callV (c := 10) (As := [.inl (jI t510.2 y0 (y3 + (1 : Int32)).toNatClampNeg), .inl (jI t510.2 y0 (y3 + (2 : Int32)).toNatClampNeg), .inl (jI t510.2 y0 (y3 + (3 : Int32)).toNatClampNeg), .inl (jI t510.2 y0 (y3 + (4 : Int32)).toNatClampNeg), .inl (jI t510.2 y0 (y3 + (5 : Int32)).toNatClampNeg)]) (rest := [.inl t510.1]) O (ec_X10_load (d := 6) O (Nat.le_refl _) w518) w517 (by decide) rfl (by omega) jmw_X10_load jmv_X10_load jmn_X10_load (idx := 187) (jW_of 2010 (by decide +kernel) rfl) (Nat.le_of_ble_eq_true rfl) (by decide +kernel)) ?_
      refine jS.br (i := .if_icmp .eq 38) (P := t510.1 = t519.1) (rest := []) rfl (by decide +kernel) (tgt := 1638) (by decide) (fun c520 => ?_) (fun c520 => ?_)
      · replace H := jif_t c520 H
        refine jS.adv O [(.iinc 3 6, 0, 0, 0, 0, (6 : Int32), 0), (.goto (-1623), 0, 18, 0, 0, 0, 0)] (pc' := 18) (ls' := [(3, .inl (y3 + (6 : Int32))), (0, .inr (.inr y0)), (1, .inr (.inr y1)), (2, .inr (.inr y2))]) (st' := []) (m2 := t519.2) (by decide +kernel) rfl trivial ?_
        refine jS.loc' [1, 2, 3, 0] (ls' := [(0, .inr (.inr y0)), (1, .inr (.inr y1)), (2, .inr (.inr y2)), (3, .inl (y3 + (6 : Int32)))]) rfl ?_
        exact hB _ _ _ _ _ _ H h1 h2
      · replace H := jif_f c520 H
        refine jS.adv O [(.iconst 0, 0, 0, 0, 0, (0 : Int32), 0)] (pc' := 1604) (ls' := [(0, .inr (.inr y0)), (1, .inr (.inr y1)), (2, .inr (.inr y2)), (3, .inl y3)]) (st' := [.inl (0 : Int32)]) (m2 := t519.2) (by decide +kernel) rfl trivial ?_
        replace H := Option.some.inj H
        subst H
        obtain ⟨q1, q2⟩ := h1 _ rfl
        subst q1; subst q2
        exact jS.zret rfl (Or.inl rfl) (by decide +kernel)
    replace H := jif_f c502 H
    by_cases c521 : ((jI m y0 y3.toNatClampNeg) &&& (63 : Int32)) = (40 : Int32)
    · replace H := jif_t c521 H
      refine jS.tswIn (dflt := 1605) (lo := 0) (hi := 40) (offs := #[179, 212, 275, 308, 341, 384, 427, 461, 494, 517, 540, 563, 576, 599, 633, 657, 671, 685, 748, 772, 805, 849, 893, 927, 950, 973, 1007, 1031, 1094, 1117, 1181, 1214, 1247, 1260, 1273, 1296, 1339, 1412, 1446, 1509, 1572]) (off := 1572) c521 (len := 179) (tgt := 1605) (by decide +kernel) (by decide) (by decide) rfl (by decide) ?_
      obtain ⟨w522, H⟩ := jgd_ok H
      obtain ⟨w523, H⟩ := jgd_ok H
      obtain ⟨w524, H⟩ := jgd_ok H
      refine jS.adv O [(.aload_n 1, 0, 0, 0, 0, 0, 0), (.aload_n 0, 0, 0, 0, 0, 0, 0), (.iload_n 3, 0, 0, 0, 0, 0, 0), (.iconst 1, 0, 0, 0, 0, (1 : Int32), 0), (.iadd, 0, 0, 0, 0, 0, 0), (.iaload, 0, 8, 0, 0, 0, 0), (.aload_n 0, 0, 0, 0, 0, 0, 0), (.iload_n 3, 0, 0, 0, 0, 0, 0), (.iconst 2, 0, 0, 0, 0, (2 : Int32), 0), (.iadd, 0, 0, 0, 0, 0, 0), (.iaload, 0, 8, 0, 0, 0, 0)] (pc' := 1616) (ls' := [(0, .inr (.inr y0)), (1, .inr (.inr y1)), (2, .inr (.inr y2)), (3, .inl y3)]) (st' := [.inl (jI m y0 (y3 + (2 : Int32)).toNatClampNeg), .inl (jI m y0 (y3 + (1 : Int32)).toNatClampNeg), .inr (.inr y1)]) (m2 := m) (by decide +kernel) rfl ⟨⟨w7, jib_ok w522⟩, ⟨w7, jib_ok w523⟩, trivial⟩ ?_
      obtain ⟨t526, w525, H⟩ := jb_ok H
      refine jS.step (c' := (1619, [(0, .inr (.inr y0)), (1, .inr (.inr y1)), (2, .inr (.inr y2)), (3, .inl y3)], [.inl t526], m)) (jSt.callV (c := 9) (As := [.inl (jI m y0 (y3 + (1 : Int32)).toNatClampNeg), .inl (jI m y0 (y3 + (2 : Int32)).toNatClampNeg)]) (rest := []) O (ec_X9_taken (d := 4) O (Nat.le_refl _) w525) w524 (by decide) rfl (by omega) jmw_X9_taken jmv_X9_taken jmn_X9_taken (idx := 188) (jW_of 1354 (by decide +kernel) rfl) (Nat.le_of_ble_eq_true rfl) (by decide +kernel)) ?_
      obtain ⟨w527, H⟩ := jgd_ok H
      obtain ⟨w528, H⟩ := jgd_ok H
      obtain ⟨w529, H⟩ := jgd_ok H
      refine jS.adv O [(.aload_n 2, 0, 0, 0, 0, 0, 0), (.aload_n 0, 0, 0, 0, 0, 0, 0), (.iload_n 3, 0, 0, 0, 0, 0, 0), (.iconst 1, 0, 0, 0, 0, (1 : Int32), 0), (.iadd, 0, 0, 0, 0, 0, 0), (.iaload, 0, 8, 0, 0, 0, 0), (.aload_n 0, 0, 0, 0, 0, 0, 0), (.iload_n 3, 0, 0, 0, 0, 0, 0), (.iconst 2, 0, 0, 0, 0, (2 : Int32), 0), (.iadd, 0, 0, 0, 0, 0, 0), (.iaload, 0, 8, 0, 0, 0, 0)] (pc' := 1630) (ls' := [(0, .inr (.inr y0)), (1, .inr (.inr y1)), (2, .inr (.inr y2)), (3, .inl y3)]) (st' := [.inl (jI m y0 (y3 + (2 : Int32)).toNatClampNeg), .inl (jI m y0 (y3 + (1 : Int32)).toNatClampNeg), .inr (.inr y2), .inl t526]) (m2 := m) (by decide +kernel) rfl ⟨⟨w7, jib_ok w527⟩, ⟨w7, jib_ok w528⟩, trivial⟩ ?_
      obtain ⟨t531, w530, H⟩ := jb_ok H
      refine jS.step (c' := (1633, [(0, .inr (.inr y0)), (1, .inr (.inr y1)), (2, .inr (.inr y2)), (3, .inl y3)], [.inl t531, .inl t526], m)) (jSt.callV (c := 10) (As := [.inl (jI m y0 (y3 + (1 : Int32)).toNatClampNeg), .inl (jI m y0 (y3 + (2 : Int32)).toNatClampNeg)]) (rest := [.inl t526]) O (ec_X10_taken (d := 4) O (Nat.le_refl _) w530) w529 (by decide) rfl (by omega) jmw_X10_taken jmv_X10_taken jmn_X10_taken (idx := 191) (jW_of 2015 (by decide +kernel) rfl) (Nat.le_of_ble_eq_true rfl) (by decide +kernel)) ?_
      refine jS.br (i := .if_icmp .eq 5) (P := t526 = t531) (rest := []) rfl (by decide +kernel) (tgt := 1638) (by decide) (fun c532 => ?_) (fun c532 => ?_)
      · replace H := jif_t c532 H
        refine jS.adv O [(.iinc 3 6, 0, 0, 0, 0, (6 : Int32), 0), (.goto (-1623), 0, 18, 0, 0, 0, 0)] (pc' := 18) (ls' := [(3, .inl (y3 + (6 : Int32))), (0, .inr (.inr y0)), (1, .inr (.inr y1)), (2, .inr (.inr y2))]) (st' := []) (m2 := m) (by decide +kernel) rfl trivial ?_
        refine jS.loc' [1, 2, 3, 0] (ls' := [(0, .inr (.inr y0)), (1, .inr (.inr y1)), (2, .inr (.inr y2)), (3, .inl (y3 + (6 : Int32)))]) rfl ?_
        exact hB _ _ _ _ _ _ H h1 h2
      · replace H := jif_f c532 H
        refine jS.adv O [(.iconst 0, 0, 0, 0, 0, (0 : Int32), 0)] (pc' := 1637) (ls' := [(0, .inr (.inr y0)), (1, .inr (.inr y1)), (2, .inr (.inr y2)), (3, .inl y3)]) (st' := [.inl (0 : Int32)]) (m2 := m) (by decide +kernel) rfl trivial ?_
        replace H := Option.some.inj H
        subst H
        obtain ⟨q1, q2⟩ := h1 _ rfl
        subst q1; subst q2
        exact jS.zret rfl (Or.inl rfl) (by decide +kernel)
    replace H := jif_f c521 H
    refine jS.tswOut (dflt := 1605) (lo := 0) (hi := 40) (offs := #[179, 212, 275, 308, 341, 384, 427, 461, 494, 517, 540, 563, 576, 599, 633, 657, 671, 685, 748, 772, 805, 849, 893, 927, 950, 973, 1007, 1031, 1094, 1117, 1181, 1214, 1247, 1260, 1273, 1296, 1339, 1412, 1446, 1509, 1572]) (by have q := jsw_out (x := ((jI m y0 y3.toNatClampNeg) &&& (63 : Int32))) (vs := [(0 : Int32), (1 : Int32), (2 : Int32), (3 : Int32), (4 : Int32), (5 : Int32), (6 : Int32), (7 : Int32), (8 : Int32), (9 : Int32), (10 : Int32), (11 : Int32), (12 : Int32), (13 : Int32), (14 : Int32), (15 : Int32), (16 : Int32), (17 : Int32), (18 : Int32), (19 : Int32), (20 : Int32), (21 : Int32), (22 : Int32), (23 : Int32), (24 : Int32), (25 : Int32), (26 : Int32), (27 : Int32), (28 : Int32), (29 : Int32), (30 : Int32), (31 : Int32), (32 : Int32), (33 : Int32), (34 : Int32), (35 : Int32), (36 : Int32), (37 : Int32), (38 : Int32), (39 : Int32), (40 : Int32)]) (lo := 0) (n := 41) (by decide) (List.forall_mem_cons.mpr ⟨c10, List.forall_mem_cons.mpr ⟨c23, List.forall_mem_cons.mpr ⟨c42, List.forall_mem_cons.mpr ⟨c55, List.forall_mem_cons.mpr ⟨c68, List.forall_mem_cons.mpr ⟨c83, List.forall_mem_cons.mpr ⟨c98, List.forall_mem_cons.mpr ⟨c110, List.forall_mem_cons.mpr ⟨c123, List.forall_mem_cons.mpr ⟨c134, List.forall_mem_cons.mpr ⟨c145, List.forall_mem_cons.mpr ⟨c156, List.forall_mem_cons.mpr ⟨c164, List.forall_mem_cons.mpr ⟨c175, List.forall_mem_cons.mpr ⟨c188, List.forall_mem_cons.mpr ⟨c199, List.forall_mem_cons.mpr ⟨c207, List.forall_mem_cons.mpr ⟨c215, List.forall_mem_cons.mpr ⟨c230, List.forall_mem_cons.mpr ⟨c241, List.forall_mem_cons.mpr ⟨c254, List.forall_mem_cons.mpr ⟨c269, List.forall_mem_cons.mpr ⟨c284, List.forall_mem_cons.mpr ⟨c297, List.forall_mem_cons.mpr ⟨c308, List.forall_mem_cons.mpr ⟨c319, List.forall_mem_cons.mpr ⟨c332, List.forall_mem_cons.mpr ⟨c343, List.forall_mem_cons.mpr ⟨c358, List.forall_mem_cons.mpr ⟨c368, List.forall_mem_cons.mpr ⟨c387, List.forall_mem_cons.mpr ⟨c400, List.forall_mem_cons.mpr ⟨c413, List.forall_mem_cons.mpr ⟨c421, List.forall_mem_cons.mpr ⟨c429, List.forall_mem_cons.mpr ⟨c439, List.forall_mem_cons.mpr ⟨c454, List.forall_mem_cons.mpr ⟨c471, List.forall_mem_cons.mpr ⟨c483, List.forall_mem_cons.mpr ⟨c502, List.forall_mem_cons.mpr ⟨c521, List.forall_mem_nil _⟩⟩⟩⟩⟩⟩⟩⟩⟩⟩⟩⟩⟩⟩⟩⟩⟩⟩⟩⟩⟩⟩⟩⟩⟩⟩⟩⟩⟩⟩⟩⟩⟩⟩⟩⟩⟩⟩⟩⟩⟩); first | exact q | omega) (len := 179) (tgt := 1638) (by decide +kernel) (by decide) ?_
    refine jS.adv O [(.iinc 3 6, 0, 0, 0, 0, (6 : Int32), 0), (.goto (-1623), 0, 18, 0, 0, 0, 0)] (pc' := 18) (ls' := [(3, .inl (y3 + (6 : Int32))), (0, .inr (.inr y0)), (1, .inr (.inr y1)), (2, .inr (.inr y2))]) (st' := []) (m2 := m) (by decide +kernel) rfl trivial ?_
    refine jS.loc' [1, 2, 3, 0] (ls' := [(0, .inr (.inr y0)), (1, .inr (.inr y1)), (2, .inr (.inr y2)), (3, .inl (y3 + (6 : Int32)))]) rfl ?_
    exact hB _ _ _ _ _ _ H h1 h2
def c_L_law_l18 (F : Nat) : Nat → jMe → Nat → Nat → Nat → Int32 → Option ((Int32 × jMe) ⊕ jMe)
  | 0, _, _, _, _, _ => none
  | n + 1, m, y0, y1, y2, y3 => c_L_law_l18_b F (fun m y0 y1 y2 y3 => c_L_law_l18 F n m y0 y1 y2 y3) m y0 y1 y2 y3
theorem ec_L_law_l18 {X : jX} {l : Launch} {d : Nat} (O : jOk X) (hd : 81 ≤ d) {F : Nat} {m0 m' : jMe} {v : Option jAV} : ∀ (n : Nat) {m : jMe} {y0 : Nat} {y1 : Nat} {y2 : Nat} {y3 : Int32} {r : (Int32 × jMe) ⊕ jMe} (H : c_L_law_l18 F n m y0 y1 y2 y3 = some r) (h1 : ∀ q, r = .inl q → v = (some (.inl q.1)) ∧ m' = q.2) (h2 : ∀ e, r = .inr e → jS X l d jm_L_law m0 v m' (1644, [], [], e)), jS X l d jm_L_law m0 v m' (18, [(0, .inr (.inr y0)), (1, .inr (.inr y1)), (2, .inr (.inr y2)), (3, .inl y3)], [], m) := by
  intro n
  induction n with
  | zero =>
    intro m y0 y1 y2 y3 r H h1 h2
    cases (show none = some r from H)
  | succ n ih =>
    intro m y0 y1 y2 y3 r H h1 h2
    exact ec_L_law_l18_b O hd (B := (fun m y0 y1 y2 y3 => c_L_law_l18 F n m y0 y1 y2 y3)) (fun m y0 y1 y2 y3 r H h1 h2 => ih H h1 h2) H h1 h2
def c_L_law (F : Nat) (m : jMe) (x0 : Nat) : Option (Int32 × jMe) :=
  jlet (jnew m (32 + 9) 0 (jnf 9)) fun m1 => jb (c_X9_init F m1 (32 + jN m)) fun t3 => jlet (jnew t3 (32 + 10) 0 (jnf 10)) fun m4 => jb (c_X10_init F m4 (32 + jN t3)) fun t6 => jb2 (c_L_law_l18 F F t6 x0 (32 + jN m) (32 + jN t3) (0 : Int32)) (fun q => some q) fun e534 => some ((1 : Int32), e534)
theorem es_L_law {X : jX} {l : Launch} {d : Nat} (O : jOk X) (hd : 81 ≤ d) {F : Nat} {m : jMe} {x0 : Nat} {r : Int32 × jMe} (H : c_L_law F m x0 = some r) : jS X l d jm_L_law m (some (.inl r.1)) r.2 (0, [(0, .inr (.inr x0))], [], m) := by
  unfold c_L_law at H
  obtain ⟨m1, em1, H⟩ := jlet_ok H
  refine jS.adv O [(.new 7, 0, 9, 261, 262, 0, 0)] (pc' := 3) (ls' := [(0, .inr (.inr x0))]) (st' := [.inr (.inr (32 + jN m))]) (m2 := (jnew m (32 + 9) 0 (jnf 9))) (by decide +kernel) rfl trivial ?_
  refine jS.cast (c' := (3, [(0, .inr (.inr x0))], [.inr (.inr (32 + jN m))], m1)) (by rw [em1]) ?_
  refine jS.adv O [(.dup, 0, 0, 0, 0, 0, 0)] (pc' := 4) (ls' := [(0, .inr (.inr x0))]) (st' := [.inr (.inr (32 + jN m)), .inr (.inr (32 + jN m))]) (m2 := m1) (by decide +kernel) rfl trivial ?_
  obtain ⟨t3, w2, H⟩ := jb_ok H
  refine jS.step (c' := (7, [(0, .inr (.inr x0))], [.inr (.inr (32 + jN m))], t3)) (jSt.callI (As := []) (rest := [.inr (.inr (32 + jN m))]) O (ec_X9_init (d := 4) O (Nat.le_refl _) w2) (by omega) (by omega) jmw_X9_init jmv_X9_init jmn_X9_init (idx := 9) (jW_of 263 (by decide +kernel) rfl) (Nat.le_of_ble_eq_true rfl) (by decide +kernel)) ?_
  obtain ⟨m4, em4, H⟩ := jlet_ok H
  refine jS.adv O [(.astore_n 1, 0, 0, 0, 0, 0, 0), (.new 10, 0, 10, 1359, 1360, 0, 0)] (pc' := 11) (ls' := [(1, .inr (.inr (32 + jN m))), (0, .inr (.inr x0))]) (st' := [.inr (.inr (32 + jN t3))]) (m2 := (jnew t3 (32 + 10) 0 (jnf 10))) (by decide +kernel) rfl trivial ?_
  refine jS.cast (c' := (11, [(1, .inr (.inr (32 + jN m))), (0, .inr (.inr x0))], [.inr (.inr (32 + jN t3))], m4)) (by rw [em4]) ?_
  refine jS.adv O [(.dup, 0, 0, 0, 0, 0, 0)] (pc' := 12) (ls' := [(1, .inr (.inr (32 + jN m))), (0, .inr (.inr x0))]) (st' := [.inr (.inr (32 + jN t3)), .inr (.inr (32 + jN t3))]) (m2 := m4) (by decide +kernel) rfl trivial ?_
  obtain ⟨t6, w5, H⟩ := jb_ok H
  refine jS.step (c' := (15, [(1, .inr (.inr (32 + jN m))), (0, .inr (.inr x0))], [.inr (.inr (32 + jN t3))], t6)) (jSt.callI (As := []) (rest := [.inr (.inr (32 + jN t3))]) O (ec_X10_init (d := 3) O (Nat.le_refl _) w5) (by omega) (by omega) jmw_X10_init jmv_X10_init jmn_X10_init (idx := 12) (jW_of 1361 (by decide +kernel) rfl) (Nat.le_of_ble_eq_true rfl) (by decide +kernel)) ?_
  refine jS.adv O [(.astore_n 2, 0, 0, 0, 0, 0, 0), (.iconst 0, 0, 0, 0, 0, (0 : Int32), 0), (.istore_n 3, 0, 0, 0, 0, 0, 0)] (pc' := 18) (ls' := [(3, .inl (0 : Int32)), (2, .inr (.inr (32 + jN t3))), (1, .inr (.inr (32 + jN m))), (0, .inr (.inr x0))]) (st' := []) (m2 := t6) (by decide +kernel) rfl trivial ?_
  refine jS.loc' [3, 2, 1, 0] (ls' := [(0, .inr (.inr x0)), (1, .inr (.inr (32 + jN m))), (2, .inr (.inr (32 + jN t3))), (3, .inl (0 : Int32))]) rfl ?_
  rcases jb2_ok H with ⟨q533, w535, H⟩ | ⟨e534, w535, H⟩
  · refine ec_L_law_l18 O hd F w535 (fun q2 hq2 => ?_) (fun e2 he2 => by cases he2)
    cases hq2
    cases H
    exact ⟨rfl, rfl⟩
  · refine ec_L_law_l18 O hd F w535 (fun q2 hq2 => by cases hq2) (fun e2 he2 => ?_)
    cases he2
    refine jS.adv O [(.iconst 1, 0, 0, 0, 0, (1 : Int32), 0)] (pc' := 1645) (ls' := []) (st' := [.inl (1 : Int32)]) (m2 := e534) (by decide +kernel) rfl trivial ?_
    replace H := Option.some.inj H
    subst H
    exact jS.zret rfl (Or.inr rfl) (by decide +kernel)
