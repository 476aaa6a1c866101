/-! items laid into sheets; answers drawn by a number, as the reference does it -/
section YPUT
variable {F : Nat} {D : jD} {S : jTS}
def jHi (H : jHt) (s i : Nat) (v : Int64) : jHt := (H.1, H.2.1, H.2.2.1, fun x y => if x = s ∧ y = i then v else H.2.2.2 x y)
def jputr (H : jHt) (x1 x2 : Int32) (x3 : Int64) : Int32 × jHt := if jin x1 4 = true then (if H.1 x1.toNatClampNeg = true then (if jin x2 (H.2.2.1 x1.toNatClampNeg) = true then (1, jHi H x1.toNatClampNeg x2.toNatClampNeg (jsv1 (Int32.ofNat (H.2.1 x1.toNatClampNeg)) x3)) else (-12, H)) else (-11, H)) else (-2, H)
theorem jyHm_i {H : jHt} {m : jMe} {s i : Nat} {v : Int64} (hs : s < 4) (hi : i < H.2.2.1 s) (hH : jyHm H m) : jyHm (jHi H s i v) (jsL m 128 (40 * s + i) v) := by
  intro x hx
  obtain ⟨h1, h2, h3, h4, h5⟩ := hH x hx
  have hs2 := (hH s hs).2.1
  refine ⟨h1, h2, h3, h4, fun y hy => ?_⟩
  have hy : y < H.2.2.1 x := hy
  show _ = if x = s ∧ y = i then v else H.2.2.2 x y
  rw [jsL_g]
  by_cases e : x = s ∧ y = i
  · rw [if_pos e, if_pos ⟨rfl, by rw [e.1, e.2]⟩]
  · rw [if_neg e, if_neg (by omega)]
    exact h5 y hy
theorem y_put {H : jHt} {m : jMe} (hL : jLM m) (hH : jyHm H m) {x1 x2 : Int32} {x3 : Int64} : ∃ m', c_X10_put F m 101 x1 x2 x3 = some ((jputr H x1 x2 x3).1, m') ∧ jfx (fun a _ => a = 128) m m' ∧ jyHm (jputr H x1 x2 x3).2 m' := by
  unfold c_X10_put jputr
  rw [y_isSheet, jb_some]
  cases e1 : jin x1 4 with
  | false => exact ⟨m, rfl, jfx.rfl, hH⟩
  | true =>
    obtain ⟨s, rfl, hs1, hs4⟩ := jin_nat e1
    obtain ⟨h1, h2, h3, h4, h5⟩ := hH s hs4
    rw [if_neg (show ¬ jbi true = 0 by decide), if_pos (show true = true from rfl), jgd_t hL.1, jp_125 hL, jgd_t (jk_125 hL), jz_125 hL, jgd_t (ji_int (by omega) hs4), ji_n hs1, h1]
    cases e2 : H.1 s with
    | false => exact ⟨m, rfl, jfx.rfl, hH⟩
    | true =>
      obtain ⟨g1, g2, g3⟩ := h4 e2
      rw [if_neg (show ¬ jbi true = 0 by decide), if_pos (show true = true from rfl), jp_127 hL, jgd_t (jk_127 hL), jz_127 hL, jgd_t (ji_int (by omega) hs4), g3, q_in_jin (by omega), jb_some]
      cases e3 : jin x2 (H.2.2.1 s) with
      | false => exact ⟨m, rfl, jfx.rfl, hH⟩
      | true =>
        obtain ⟨i, rfl, hi1, hi2⟩ := jin_nat e3
        unfold c_X10_put_j86 jsv1
        rw [if_neg (show ¬ jbi true = 0 by decide), if_pos (show true = true from rfl), jp_126 hL, jgd_t (jk_126 hL), jz_126 hL, jgd_t (ji_int (by omega) hs4), g1, jp_128 hL, jz_128 hL, show (40 : Int32) = Int32.ofNat 40 from rfl, ji_mul, ji_add, ji_n hi1]
        simp only [jgd_t (jk_128 hL), jgd_t (show jin (Int32.ofNat s) 4 = true from ji_int (by omega) hs4), jgd_t (show jin (Int32.ofNat (40 * s + i)) 160 = true from ji_int (by omega) (by omega)), ji_n (show 40 * s + i < 2147483648 by omega)]
        rcases (by omega : H.2.1 s = 0 ∨ H.2.1 s = 1 ∨ H.2.1 s = 2) with e | e | e
        · rw [e, if_pos (show Int32.ofNat 0 = 0 from rfl), if_pos (show Int32.ofNat 0 = 0 from rfl)]
          exact ⟨_, rfl, jfx_L rfl, jyHm_i hs4 hi2 hH⟩
        · rw [e, if_neg (show ¬ Int32.ofNat 1 = 0 by decide), if_neg (show ¬ Int32.ofNat 1 = 0 by decide), if_pos (show Int32.ofNat 1 = 1 from rfl), if_pos (show Int32.ofNat 1 = 1 from rfl)]
          exact ⟨_, rfl, jfx_L rfl, jyHm_i hs4 hi2 hH⟩
        · rw [e, if_neg (show ¬ Int32.ofNat 2 = 0 by decide), if_neg (show ¬ Int32.ofNat 2 = 0 by decide), if_neg (show ¬ Int32.ofNat 2 = 1 by decide), if_neg (show ¬ Int32.ofNat 2 = 1 by decide)]
          exact ⟨_, rfl, jfx_L rfl, jyHm_i hs4 hi2 hH⟩
theorem y_drawnBy (hF : 1000 < F) (hDS : jDS D S) (hq0 : jDq D ≠ 0) {m : jMe} (hY : jYg D S m) {z : Int32} : ∃ m', c_X10_drawnBy F m 101 z = some (jdgo D (jdraw D z).1, m') ∧ jyFd m m' ∧ jYg D S m' := by
  have hq16 := jDok_q hDS.1
  unfold c_X10_drawnBy
  obtain ⟨m1, b1, b2, b3, b4, b5⟩ := y_isDrawn (F := F) hF hDS hq0 hY (z := z)
  have hL1 := b3.1.1.1
  rw [jgd_t hY.1.1.1.1, b1, jb_some]
  dsimp only
  cases ho : (jdraw D z).1 with
  | none => exact ⟨m1, rfl, b2, b3⟩
  | some R =>
    rw [if_neg (show ¬ jbi (some R).isSome = 0 from by show ¬ jbi true = 0; decide), jgd_t hL1.1, y_digitsNow (by omega) b3.1.1 hq16 (b5 R ho), jb_some]
    exact ⟨m1, rfl, b2, b3⟩
end YPUT
