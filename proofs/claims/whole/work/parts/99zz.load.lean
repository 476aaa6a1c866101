/-! rows told from a sheet, both sides -/
def jldl (V : Nat → Int64) (x2 : Int32) (z : Nat) (at' : Int32) : Nat → Nat → Nat → jD → Int32 × jD
  | 0, _, c, D => (Int32.ofNat c, D)
  | t + 1, k, c, D => if 0 ≤ at' ∧ at'.toNatClampNeg + 4 * k + 4 ≤ z then jldl V x2 z at' t (k + 1) (if (jrowr D x2 (Int64.toInt32 (V (at'.toNatClampNeg + 4 * k))) (Int64.toInt32 (V (at'.toNatClampNeg + 4 * k + 1))) (Int64.toInt32 (V (at'.toNatClampNeg + 4 * k + 2))) (Int64.toInt32 (V (at'.toNatClampNeg + 4 * k + 3)))).1 < 0 then c else c + 1) (jrowr D x2 (Int64.toInt32 (V (at'.toNatClampNeg + 4 * k))) (Int64.toInt32 (V (at'.toNatClampNeg + 4 * k + 1))) (Int64.toInt32 (V (at'.toNatClampNeg + 4 * k + 2))) (Int64.toInt32 (V (at'.toNatClampNeg + 4 * k + 3)))).2 else (-12, D)
def jldr (D : jD) (H : jHt) (x1 x2 x3 x4 x5 : Int32) : Int32 × jD := if (jin x1 4 && (jin x2 (jDn D) && (jbt2 x3 0 2 && jbt2 x5 0 8))) = true then (if H.1 x1.toNatClampNeg = true then (if Int32.ofNat (H.2.1 x1.toNatClampNeg) = x3 then jldl (H.2.2.2 x1.toNatClampNeg) x2 (H.2.2.1 x1.toNatClampNeg) x4 x5.toNatClampNeg 0 0 D else (-13, D)) else (-11, D)) else (-2, D)
theorem jrowr_n {D : jD} {x1 x2 x3 x4 x5 : Int32} : jDn (jrowr D x1 x2 x3 x4 x5).2 = jDn D := by
  unfold jrowr
  split
  · split
    · rfl
    · split
      · split <;> rfl
      · rfl
  · rfl
theorem jld_z {z k : Nat} (hz : z ≤ 40) (hk : k < 8) : (4 * k + 4 ≤ z → Int32.ofNat z - (4 : Int32) * Int32.ofNat k - 4 = Int32.ofNat (z - 4 * k - 4)) ∧ (¬ 4 * k + 4 ≤ z → Int32.ofNat z - (4 : Int32) * Int32.ofNat k - 4 < 0) := by
  have : ∀ z : Fin 41, ∀ k : Fin 8, (4 * k.1 + 4 ≤ z.1 → Int32.ofNat z.1 - (4 : Int32) * Int32.ofNat k.1 - 4 = Int32.ofNat (z.1 - 4 * k.1 - 4)) ∧ (¬ 4 * k.1 + 4 ≤ z.1 → Int32.ofNat z.1 - (4 : Int32) * Int32.ofNat k.1 - 4 < 0) := by decide +kernel
  exact this ⟨z, by omega⟩ ⟨k, hk⟩
theorem jld_i {i : Nat} (h : i < 40) : Int64.toInt32 (Int64.ofNat i) = Int32.ofNat i := by
  have : ∀ i : Fin 40, Int64.toInt32 (Int64.ofNat i.1) = Int32.ofNat i.1 := by decide +kernel
  exact this ⟨i, h⟩
theorem xi_b02 {α : Type} {x : Int32} {A B : α} : (if x < 0 then A else if (2 : Int32) < x then A else B) = if jbt2 x 0 2 = true then B else A := xi_gt (lo := 0) (hi := 2) (by omega) (by omega)
section LOADX
variable {F w : Nat} {D : jD} {m : jMe}
theorem xq_addItems (hF : 100 < F) (h : xqQ D w m) {r s i z : Nat} {V : Nat → Int64} (hr : r < jDn D) (hs : s < 4) (hz : z ≤ 40) (hi : i + 4 ≤ z) (hV : ∀ i, i < z → jL m (90 + 2 * s) i = V i) : ∃ m', c_X9_addItems F m 32 (jrc r) (90 + 2 * s) (Int32.ofNat i) = some ((jrowr D (Int32.ofNat r) (Int64.toInt32 (V i)) (Int64.toInt32 (V (i + 1))) (Int64.toInt32 (V (i + 2))) (Int64.toInt32 (V (i + 3)))).1, m') ∧ xqF xqW m m' ∧ xqQ (jrowr D (Int32.ofNat r) (Int64.toInt32 (V i)) (Int64.toInt32 (V (i + 1))) (Int64.toInt32 (V (i + 2))) (Int64.toInt32 (V (i + 3)))).2 w m' := by
  obtain ⟨p1, p2⟩ := xq_sh h.1 hs
  obtain ⟨m', a1, a2, a3⟩ := xq_addRow (F := F) hF h hr (x := Int64.toInt32 (V i)) (y := Int64.toInt32 (V (i + 1))) (z := Int64.toInt32 (V (i + 2))) (v := Int64.toInt32 (V (i + 3)))
  refine ⟨m', ?_, a2, a3⟩
  unfold c_X9_addItems
  rw [jgd_t p2.2.2.1, p2.2.2.2.1, jgd_t (ji_int (by omega) (by omega)), show Int32.ofNat i + 1 = Int32.ofNat (i + 1) from ji_add i 1, show Int32.ofNat i + 2 = Int32.ofNat (i + 2) from ji_add i 2, show Int32.ofNat i + 3 = Int32.ofNat (i + 3) from ji_add i 3, jgd_t (ji_int (by omega) (by omega)), jgd_t (ji_int (by omega) (by omega)), jgd_t (ji_int (by omega) (by omega)), jgd_t h.1.2.1.1.1, ji_n (by omega), ji_n (by omega), ji_n (by omega), ji_n (by omega), hV i (by omega), hV (i + 1) (by omega), hV (i + 2) (by omega), hV (i + 3) (by omega), a1, jb_some]
theorem xq_load_l91 (hF : 100 < F) {r s n z a : Nat} {V : Nat → Int64} (hs : s < 4) (hn : n ≤ 8) (hz : z ≤ 40) (ha : a < 2147483648) : ∀ (t k c f : Nat) (D : jD) (m : jMe), k + t = n → t < f → c ≤ k → r < jDn D → xqQ D w m → jI m (89 + 2 * s) 2 = Int32.ofNat z → (∀ i, i < z → jL m (90 + 2 * s) i = V i) → ∃ v m', (c_X9_load_l91 F f m 32 (Int32.ofNat r) (Int32.ofNat n) (89 + 2 * s) (Int32.ofNat c) (Int64.ofNat (a + 4 * k)) (Int32.ofNat k) = some v) ∧ jb2 (some v) (fun q => some q) (fun e29 => some (e29.2, e29.1)) = some ((jldl V (Int32.ofNat r) z (Int32.ofNat a) t k c D).1, m') ∧ xqF xqW m m' ∧ xqQ (jldl V (Int32.ofNat r) z (Int32.ofNat a) t k c D).2 w m' := by
  intro t
  induction t with
  | zero =>
    intro k c f D m h1 h2 hc hr h h2s hV
    obtain ⟨f, rfl⟩ := jsucc h2
    refine ⟨.inr (m, Int32.ofNat c), m, ?_, rfl, xqF.rfl, h⟩
    show c_X9_load_l91_b F _ m _ _ _ _ _ _ _ = _
    unfold c_X9_load_l91_b
    rw [if_pos (ji_lep (by omega) (by omega) (by omega))]
  | succ t ih =>
    intro k c f D m h1 h2 hc hr h h2s hV
    obtain ⟨f, rfl⟩ := jsucc h2
    have hr4 : r < 4 := Nat.lt_of_lt_of_le hr h.1.1.1
    obtain ⟨p1, p2⟩ := xq_sh h.1 hs
    have hL := h.1.2.1.1
    have hR := h.1.2.1.2.1.1
    have hrr := xq_rel h.1 hr4
    have hnn : ¬ lg_cmp (Int64.ofNat (a + 4 * k)) 0 < 0 := fun q => absurd (jc_lt0.mp q) (Int64.not_lt.mpr ((jq_le (a := 0) (b := a + 4 * k) (by unfold jMX; omega) (by unfold jMX; omega)).mpr (Nat.zero_le _)))
    have hpre : ∀ u, (if (lg_cmp (Int64.ofNat (a + 4 * k) + (3 : Int64)) (Int64.ofNat z)) < 0 then jgd (jK m 32 = 41) <| jgd (jK m (jP m 32 0) = 5) <| jgd (jin (Int32.ofNat r) (jZ m (jP m 32 0)) = true) <| jb (c_X9_addItems F m 32 (jP m (jP m 32 0) (Int32.ofNat r).toNatClampNeg) (jP m (89 + 2 * s) 0) (Int64.toInt32 (Int64.ofNat (a + 4 * k)))) fun t26 => (if t26.1 < 0 then c_X9_load_l91 F f t26.2 32 (Int32.ofNat r) (Int32.ofNat n) (89 + 2 * s) (Int32.ofNat c + (0 : Int32)) (Int64.ofNat (a + 4 * k) + (4 : Int64)) (Int32.ofNat k + (1 : Int32)) else c_X9_load_l91 F f t26.2 32 (Int32.ofNat r) (Int32.ofNat n) (89 + 2 * s) (Int32.ofNat c + (1 : Int32)) (Int64.ofNat (a + 4 * k) + (4 : Int64)) (Int32.ofNat k + (1 : Int32))) else some (.inl ((-12 : Int32), m))) = u → c_X9_load_l91 F (f + 1) m 32 (Int32.ofNat r) (Int32.ofNat n) (89 + 2 * s) (Int32.ofNat c) (Int64.ofNat (a + 4 * k)) (Int32.ofNat k) = u := by
      intro u q
      rw [← q]
      show c_X9_load_l91_b F _ m _ _ _ _ _ _ _ = _
      unfold c_X9_load_l91_b
      rw [if_neg (ji_len (by omega) (by omega) (by omega)), if_neg hnn, jgd_t p2.1, h2s, jt64 (by omega)]
    rw [show Int64.ofNat (a + 4 * k) + (3 : Int64) = Int64.ofNat (a + 4 * k + 3) from jq_add _ 3, show Int64.ofNat (a + 4 * k) + (4 : Int64) = Int64.ofNat (a + 4 * (k + 1)) from jq_add _ 4] at hpre
    rw [jldl, ji_n ha]
    by_cases e : a + 4 * k + 4 ≤ z
    · obtain ⟨m1, b1, b2, b3⟩ := xq_addItems (F := F) hF h hr hs (i := a + 4 * k) hz e hV
      rw [if_pos (show (0 : Int32) ≤ Int32.ofNat a ∧ a + 4 * k + 4 ≤ z from ⟨ji_lep (a := 0) (by omega) ha (by omega), e⟩)]
      have hn1 := jrowr_n (D := D) (x1 := Int32.ofNat r) (x2 := Int64.toInt32 (V (a + 4 * k))) (x3 := Int64.toInt32 (V (a + 4 * k + 1))) (x4 := Int64.toInt32 (V (a + 4 * k + 2))) (x5 := Int64.toInt32 (V (a + 4 * k + 3)))
      generalize jrowr D (Int32.ofNat r) (Int64.toInt32 (V (a + 4 * k))) (Int64.toInt32 (V (a + 4 * k + 1))) (Int64.toInt32 (V (a + 4 * k + 2))) (Int64.toInt32 (V (a + 4 * k + 3))) = R at b1 b3 hn1 ⊢
      obtain ⟨v, m', c1, c2, c3, c4⟩ := ih (k + 1) (if R.1 < 0 then c else c + 1) f R.2 m1 (by omega) (by omega) (by split <;> omega) (by omega) b3 (by rw [b2.I (by unfold xqW; omega)]; exact h2s) (fun i hi => by rw [b2.L (by unfold xqW; omega)]; exact hV i hi)
      refine ⟨v, m', hpre _ ?_, c2, b2.trans c3, c4⟩
      rw [if_pos (jc_lt0.mpr ((jq_lt (by unfold jMX; omega) (by unfold jMX; omega)).mpr (by omega))), jgd_t hL.1, hL.2.1, jgd_t hR.1, hR.2.1, jgd_t (ji_int (by omega) hr4), ji_n (show r < 2147483648 by omega), hrr.1, p2.2.1, jld_i (by omega), b1, jb_some, show Int32.ofNat k + 1 = Int32.ofNat (k + 1) from ji_add k 1, show Int32.ofNat c + 1 = Int32.ofNat (c + 1) from ji_add c 1, show Int32.ofNat c + 0 = Int32.ofNat c from ji_add c 0]
      dsimp only
      by_cases eR : R.1 < 0
      · rw [if_pos eR] at c1 ⊢
        exact c1
      · rw [if_neg eR] at c1 ⊢
        exact c1
    · rw [if_neg (fun q => e q.2)]
      refine ⟨.inl (-12, m), m, hpre _ ?_, rfl, xqF.rfl, h⟩
      rw [if_neg (fun q => e (by have := (jq_lt (by unfold jMX; omega) (by unfold jMX; omega)).mp (jc_lt0.mp q); omega))]
theorem xq_load (hF : 1000 < F) {H : jHt} (h : xqQ D w m) (hH : xHm H m) {x1 x2 x3 x4 x5 : Int32} : ∃ m', c_X9_load F m 32 x1 x2 x3 x4 x5 = some ((jldr D H x1 x2 x3 x4 x5).1, m') ∧ xqF xqW m m' ∧ xqQ (jldr D H x1 x2 x3 x4 x5).2 w m' := by
  have hL := h.1.2.1.1
  have h2 := h.1.2.1.2.2.1
  unfold c_X9_load jldr
  rw [xq_isSheet, jb_some]
  cases e1 : jin x1 4 with
  | false => exact ⟨m, rfl, xqF.rfl, h⟩
  | true =>
    rw [if_neg (show ¬ jbi true = 0 by decide), jgd_t hL.1, xq_isRel h.1, jb_some]
    cases e2 : jin x2 (jDn D) with
    | false => exact ⟨m, rfl, xqF.rfl, h⟩
    | true =>
      rw [if_neg (show ¬ jbi true = 0 by decide), xi_b02, xi_c8]
      cases e3 : jbt2 x3 0 2 with
      | false => exact ⟨m, rfl, xqF.rfl, h⟩
      | true =>
        cases e5 : jbt2 x5 0 8 with
        | false => exact ⟨m, rfl, xqF.rfl, h⟩
        | true =>
          obtain ⟨s, rfl, hs2, hs⟩ := jin_nat e1
          obtain ⟨r, rfl, hr2, hr⟩ := jin_nat e2
          obtain ⟨n, rfl, hn2, -, hn⟩ := jbt2_nat e5
          obtain ⟨p1, p2⟩ := xq_sh h.1 hs
          obtain ⟨k1, l2, k3, k4, k5, k6⟩ := hH s hs
          rw [if_pos (show true = true from rfl), if_pos (show true = true from rfl), if_pos (show (true && (true && (true && true))) = true from rfl), hL.2.2.2.1, jgd_t h2.2.2.1, h2.2.2.2.1, jgd_t (ji_int (by omega) hs), ji_n hs2, ji_n hn2, p1, jgd_t p2.1, k1]
          cases e6 : H.1 s with
          | false =>
            rw [e6] at k1
            rw [if_neg (show ¬ (false = true) by decide), if_pos rfl, if_neg (show ¬ (false = true) by decide)]
            refine ⟨m, ?_, xqF.rfl, h⟩
            unfold c_X9_load_j68
            rw [jgd_t p2.1, k1, if_neg (show ¬ (false = true) by decide), if_pos rfl]
          | true =>
            rw [e6, if_pos rfl] at k1
            have k4 := k4 e6
            have hne : ¬ Int32.ofNat (H.2.1 s) = -1 := ji_ne1 (by omega)
            rw [if_pos (show true = true from rfl), if_neg hne, if_pos (show true = true from rfl)]
            by_cases e7 : Int32.ofNat (H.2.1 s) = x3
            · rw [if_pos e7, if_pos e7]
              unfold c_X9_load_j68
              rw [jgd_t p2.1, k1, if_neg hne]
              by_cases ha : x4 < 0
              · cases n with
                | zero =>
                  refine ⟨m, ?_, xqF.rfl, h⟩
                  obtain ⟨f, hf⟩ := jsucc (show 0 < F by omega)
                  rw [show c_X9_load_l91 F F m 32 (Int32.ofNat r) (Int32.ofNat 0) (89 + 2 * s) (0 : Int32) (Int32.toInt64 x4) (0 : Int32) = some (.inr (m, 0)) from by
                    rw [show c_X9_load_l91 F F = c_X9_load_l91 F (f + 1) from by rw [← hf]]
                    show c_X9_load_l91_b F _ m _ _ _ _ _ _ _ = _
                    unfold c_X9_load_l91_b
                    rw [if_pos (show Int32.ofNat 0 ≤ 0 from by decide)]]
                  rfl
                | succ n =>
                  refine ⟨m, ?_, xqF.rfl, ?_⟩
                  · obtain ⟨f, hf⟩ := jsucc (show 0 < F by omega)
                    rw [show c_X9_load_l91 F F m 32 (Int32.ofNat r) (Int32.ofNat (n + 1)) (89 + 2 * s) (0 : Int32) (Int32.toInt64 x4) (0 : Int32) = some (.inl (-12, m)) from by
                      rw [show c_X9_load_l91 F F = c_X9_load_l91 F (f + 1) from by rw [← hf]]
                      show c_X9_load_l91_b F _ m _ _ _ _ _ _ _ = _
                      unfold c_X9_load_l91_b
                      rw [if_neg (show ¬ Int32.ofNat (n + 1) ≤ 0 from ji_len (b := 0) (by omega) (by omega) (by omega)), if_pos (jc_lt0.mpr (jt64_neg ha))]]
                    rw [jldl, if_neg (fun q => absurd ha (Int32.not_lt.mpr q.1))]
                    rfl
                  · rw [jldl, if_neg (fun q => absurd ha (Int32.not_lt.mpr q.1))]
                    exact h
              · have hx4 : x4 = Int32.ofNat x4.toNatClampNeg := (Int32.ofNat_toNatClampNeg x4 (Int32.not_lt.mp ha)).symm
                have ha31 : x4.toNatClampNeg < 2147483648 := Int32.toNatClampNeg_lt x4
                generalize x4.toNatClampNeg = a at hx4 ha31
                subst hx4
                obtain ⟨v, m', c1, c2, c3, c4⟩ := xq_load_l91 (F := F) (by omega) (V := H.2.2.2 s) hs hn k3 ha31 n 0 0 F D m (by omega) (by omega) (by omega) hr h l2 k6
                have c1 : c_X9_load_l91 F F m 32 (Int32.ofNat r) (Int32.ofNat n) (89 + 2 * s) (0 : Int32) (Int64.ofNat a) (0 : Int32) = some v := c1
                rw [jt64 ha31, c1]
                exact ⟨m', c2, c3, c4⟩
            · rw [if_neg e7, if_neg e7]
              exact ⟨m, rfl, xqF.rfl, h⟩
end LOADX
section LOADY
variable {F : Nat} {S : jTS}
theorem y_load_l83 (hF : 1000 < F) {r s n z a : Nat} {V : Nat → Int64} (hs : s < 4) (hn : n ≤ 8) (hz : z ≤ 40) (ha : a < 2147483648) : ∀ (t k c f : Nat) (D : jD) (m : jMe), k + t = n → t < f → c ≤ k → r < jDn D → jDS D S → jyQ D S m → jI m 127 s = Int32.ofNat z → (∀ i, i < z → jL m 128 (40 * s + i) = V i) → ∃ v m', (c_X10_load_l83 F f m 101 (Int32.ofNat s) (Int32.ofNat r) (Int32.ofNat a) (Int32.ofNat n) (Int32.ofNat c) (Int32.ofNat k) = some v) ∧ jb2 (some v) (fun q => some q) (fun e36 => some (e36.2, e36.1)) = some ((jldl V (Int32.ofNat r) z (Int32.ofNat a) t k c D).1, m') ∧ jfx (fun a _ => 107 ≤ a ∧ a ≤ 110) m m' ∧ jyQ (jldl V (Int32.ofNat r) z (Int32.ofNat a) t k c D).2 S m' ∧ jDS (jldl V (Int32.ofNat r) z (Int32.ofNat a) t k c D).2 S := by
  intro t
  induction t with
  | zero =>
    intro k c f D m h1 h2 hc hr hDS hQ h2s hV
    obtain ⟨f, rfl⟩ := jsucc h2
    refine ⟨.inr (m, Int32.ofNat c), m, ?_, rfl, jfx.rfl, hQ, hDS⟩
    show c_X10_load_l83_b F _ m _ _ _ _ _ _ _ = _
    unfold c_X10_load_l83_b
    rw [if_pos (ji_lep (by omega) (by omega) (by omega))]
  | succ t ih =>
    intro k c f D m h1 h2 hc hr hDS hQ h2s hV
    obtain ⟨f, rfl⟩ := jsucc h2
    have hL := hQ.1.1
    obtain ⟨z1, z2⟩ := jld_z (z := z) (k := k) hz (by omega)
    rw [jldl, ji_n ha]
    by_cases e : a + 4 * k + 4 ≤ z
    · obtain ⟨m1, b1, b2, b3, b4⟩ := y_row (F := F) hF hDS hQ (x1 := Int32.ofNat r) (x2 := Int64.toInt32 (V (a + 4 * k))) (x3 := Int64.toInt32 (V (a + 4 * k + 1))) (x4 := Int64.toInt32 (V (a + 4 * k + 2))) (x5 := Int64.toInt32 (V (a + 4 * k + 3)))
      rw [if_pos (show (0 : Int32) ≤ Int32.ofNat a ∧ a + 4 * k + 4 ≤ z from ⟨ji_lep (a := 0) (by omega) ha (by omega), e⟩)]
      have hn1 := jrowr_n (D := D) (x1 := Int32.ofNat r) (x2 := Int64.toInt32 (V (a + 4 * k))) (x3 := Int64.toInt32 (V (a + 4 * k + 1))) (x4 := Int64.toInt32 (V (a + 4 * k + 2))) (x5 := Int64.toInt32 (V (a + 4 * k + 3)))
      generalize jrowr D (Int32.ofNat r) (Int64.toInt32 (V (a + 4 * k))) (Int64.toInt32 (V (a + 4 * k + 1))) (Int64.toInt32 (V (a + 4 * k + 2))) (Int64.toInt32 (V (a + 4 * k + 3))) = R at b1 b3 b4 hn1 ⊢
      obtain ⟨v, m', c1, c2, c3, c4, c5⟩ := ih (k + 1) (if R.1 < 0 then c else c + 1) f R.2 m1 (by omega) (by omega) (by split <;> omega) (by omega) b4 b3 (by rw [b2.I (by omega)]; exact h2s) (fun i hi => by rw [b2.L (by omega)]; exact hV i hi)
      refine ⟨v, m', ?_, c2, b2.trans c3, c4, c5⟩
      show c_X10_load_l83_b F _ m _ _ _ _ _ _ _ = _
      unfold c_X10_load_l83_b
      rw [if_neg (ji_len (by omega) (by omega) (by omega)), if_neg (ji_ge0 ha), jgd_t hL.1, jp_127 hL, jgd_t (jk_127 hL), jz_127 hL, jgd_t (ji_int (by omega) hs), ji_n (show s < 2147483648 by omega), h2s, z1 (by omega), if_pos (ji_lep ha (by omega) (by omega)), jp_128 hL, jgd_t (jk_128 hL), jz_128 hL, show (40 : Int32) * Int32.ofNat s = Int32.ofNat (40 * s) from ji_mul 40 s, show (4 : Int32) * Int32.ofNat k = Int32.ofNat (4 * k) from ji_mul 4 k, ji_add, ji_add, show 40 * s + a + 4 * k = 40 * s + (a + 4 * k) by omega, jgd_t (ji_int (by omega) (by omega)), show Int32.ofNat (40 * s + (a + 4 * k)) + 1 = Int32.ofNat (40 * s + (a + 4 * k + 1)) from ji_add _ 1, show Int32.ofNat (40 * s + (a + 4 * k)) + 2 = Int32.ofNat (40 * s + (a + 4 * k + 2)) from ji_add _ 2, show Int32.ofNat (40 * s + (a + 4 * k)) + 3 = Int32.ofNat (40 * s + (a + 4 * k + 3)) from ji_add _ 3, jgd_t (ji_int (by omega) (by omega)), jgd_t (ji_int (by omega) (by omega)), jgd_t (ji_int (by omega) (by omega)), ji_n (by omega), ji_n (by omega), ji_n (by omega), ji_n (by omega), hV _ (by omega), hV _ (by omega), hV _ (by omega), hV _ (by omega), b1, jb_some, show Int32.ofNat k + 1 = Int32.ofNat (k + 1) from ji_add k 1, show Int32.ofNat c + 1 = Int32.ofNat (c + 1) from ji_add c 1, show Int32.ofNat c + 0 = Int32.ofNat c from ji_add c 0]
      dsimp only
      by_cases eR : R.1 < 0
      · rw [if_pos eR] at c1 ⊢
        exact c1
      · rw [if_neg eR] at c1 ⊢
        exact c1
    · rw [if_neg (fun q => e q.2)]
      refine ⟨.inl (-12, m), m, ?_, rfl, jfx.rfl, hQ, hDS⟩
      show c_X10_load_l83_b F _ m _ _ _ _ _ _ _ = _
      unfold c_X10_load_l83_b
      rw [if_neg (ji_len (by omega) (by omega) (by omega)), if_neg (ji_ge0 ha), jgd_t hL.1, jp_127 hL, jgd_t (jk_127 hL), jz_127 hL, jgd_t (ji_int (by omega) hs), ji_n (show s < 2147483648 by omega), h2s]
      by_cases e4 : 4 * k + 4 ≤ z
      · rw [z1 e4, if_neg (ji_len ha (by omega) (by omega))]
      · rw [if_neg (fun q => absurd (Int32.lt_of_le_of_lt q (z2 e4)) (ji_ge0 ha))]
theorem y_load {D : jD} {m : jMe} (hF : 1000 < F) {H : jHt} (hDS : jDS D S) (hQ : jyQ D S m) (hH : jyHm H m) {x1 x2 x3 x4 x5 : Int32} : ∃ m', c_X10_load F m 101 x1 x2 x3 x4 x5 = some ((jldr D H x1 x2 x3 x4 x5).1, m') ∧ jfx (fun a _ => 107 ≤ a ∧ a ≤ 110) m m' ∧ jyQ (jldr D H x1 x2 x3 x4 x5).2 S m' ∧ jDS (jldr D H x1 x2 x3 x4 x5).2 S := by
  have hL := hQ.1.1
  unfold c_X10_load jldr
  rw [y_isSheet, jb_some]
  cases e1 : jin x1 4 with
  | false => exact ⟨m, rfl, jfx.rfl, hQ, hDS⟩
  | true =>
    rw [if_neg (show ¬ jbi true = 0 by decide), jgd_t hL.1, y_isRelation hL hQ.1.2.1 hDS.1, jb_some]
    cases e2 : jin x2 (jDn D) with
    | false => exact ⟨m, rfl, jfx.rfl, hQ, hDS⟩
    | true =>
      rw [if_neg (show ¬ jbi true = 0 by decide), show c_X10_in F m (Int32.toInt64 x3) (0 : Int64) (2 : Int64) = some (jbi (jbt2 x3 0 2)) from q_in_int (lo := 0) (hi := 2) (by omega) (by omega), jb_some]
      cases e3 : jbt2 x3 0 2 with
      | false => exact ⟨m, rfl, jfx.rfl, hQ, hDS⟩
      | true =>
        rw [if_neg (show ¬ jbi true = 0 by decide), show c_X10_in F m (Int32.toInt64 x5) (0 : Int64) (8 : Int64) = some (jbi (jbt2 x5 0 8)) from q_in_int (lo := 0) (hi := 8) (by omega) (by omega), jb_some]
        cases e5 : jbt2 x5 0 8 with
        | false => exact ⟨m, rfl, jfx.rfl, hQ, hDS⟩
        | true =>
          obtain ⟨s, rfl, hs2, hs⟩ := jin_nat e1
          obtain ⟨r, rfl, hr2, hr⟩ := jin_nat e2
          obtain ⟨n, rfl, hn2, -, hn⟩ := jbt2_nat e5
          obtain ⟨k1, k2, k3, k4, k5⟩ := hH s hs
          rw [if_neg (show ¬ jbi true = 0 by decide), if_pos (show (true && (true && (true && true))) = true from rfl), jp_125 hL, jgd_t (jk_125 hL), jz_125 hL, jgd_t (ji_int (by omega) hs), ji_n hs2, ji_n hn2, k1]
          cases e6 : H.1 s with
          | false =>
            rw [e6] at k1
            rw [if_pos (show jbi false = 0 from rfl), if_neg (show ¬ (false = true) by decide)]
            refine ⟨m, ?_, jfx.rfl, hQ, hDS⟩
            unfold c_X10_load_j65
            rw [jgd_t hL.1, jp_125 hL, jgd_t (jk_125 hL), jz_125 hL, jgd_t (ji_int (by omega) hs), ji_n hs2, k1, if_pos (show jbi false = 0 from rfl)]
          | true =>
            rw [e6] at k1
            obtain ⟨l1, l2, l3⟩ := k4 e6
            rw [if_neg (show ¬ jbi true = 0 by decide), if_pos (show true = true from rfl), jp_126 hL, jgd_t (jk_126 hL), jz_126 hL, jgd_t (ji_int (by omega) hs), l1]
            by_cases e7 : Int32.ofNat (H.2.1 s) = x3
            · rw [if_pos e7, if_pos e7]
              unfold c_X10_load_j65
              rw [jgd_t hL.1, jp_125 hL, jgd_t (jk_125 hL), jz_125 hL, jgd_t (ji_int (by omega) hs), ji_n hs2, k1, if_neg (show ¬ jbi true = 0 by decide)]
              by_cases ha : x4 < 0
              · cases n with
                | zero =>
                  refine ⟨m, ?_, jfx.rfl, hQ, hDS⟩
                  obtain ⟨f, hf⟩ := jsucc (show 0 < F by omega)
                  rw [show c_X10_load_l83 F F m 101 (Int32.ofNat s) (Int32.ofNat r) x4 (Int32.ofNat 0) (0 : Int32) (0 : Int32) = some (.inr (m, 0)) from by
                    rw [show c_X10_load_l83 F F = c_X10_load_l83 F (f + 1) from by rw [← hf]]
                    show c_X10_load_l83_b F _ m _ _ _ _ _ _ _ = _
                    unfold c_X10_load_l83_b
                    rw [if_pos (show Int32.ofNat 0 ≤ 0 from by decide)]]
                  rfl
                | succ n =>
                  refine ⟨m, ?_, jfx.rfl, ?_⟩
                  · obtain ⟨f, hf⟩ := jsucc (show 0 < F by omega)
                    rw [show c_X10_load_l83 F F m 101 (Int32.ofNat s) (Int32.ofNat r) x4 (Int32.ofNat (n + 1)) (0 : Int32) (0 : Int32) = some (.inl (-12, m)) from by
                      rw [show c_X10_load_l83 F F = c_X10_load_l83 F (f + 1) from by rw [← hf]]
                      show c_X10_load_l83_b F _ m _ _ _ _ _ _ _ = _
                      unfold c_X10_load_l83_b
                      rw [if_neg (show ¬ Int32.ofNat (n + 1) ≤ 0 from ji_len (b := 0) (by omega) (by omega) (by omega)), if_pos ha]]
                    rw [jldl, if_neg (fun q => absurd ha (Int32.not_lt.mpr q.1))]
                    rfl
                  · rw [jldl, if_neg (fun q => absurd ha (Int32.not_lt.mpr q.1))]
                    exact ⟨hQ, hDS⟩
              · have hx4 : x4 = Int32.ofNat x4.toNatClampNeg := (Int32.ofNat_toNatClampNeg x4 (Int32.not_lt.mp ha)).symm
                have ha31 : x4.toNatClampNeg < 2147483648 := Int32.toNatClampNeg_lt x4
                generalize x4.toNatClampNeg = a at hx4 ha31
                subst hx4
                obtain ⟨v, m', c1, c2, c3, c4, c5⟩ := y_load_l83 (F := F) hF (V := H.2.2.2 s) hs hn k2 ha31 n 0 0 F D m (by omega) (by omega) (by omega) hr hDS hQ l3 k5
                have c1 : c_X10_load_l83 F F m 101 (Int32.ofNat s) (Int32.ofNat r) (Int32.ofNat a) (Int32.ofNat n) (0 : Int32) (0 : Int32) = some v := c1
                rw [c1]
                exact ⟨m', c2, c3, c4, c5⟩
            · rw [if_neg e7, if_neg e7]
              exact ⟨m, rfl, jfx.rfl, hQ, hDS⟩
end LOADY
