/-! rows that are added, as the reference adds them -/
section YROW2
variable {F : Nat} {D : jD} {S : jTS}
/-- a row f with v copies, added to r -/
def jUw (D : jD) (r : Nat) (f : Nat → Nat) (v : Nat) : jD := (D.1, D.2.1, D.2.2.1, (fun x => if x = r then jDz D r + 1 else jDz D x), (fun x => if x = r then jDl D r ||| 2 ^ jDz D r else jDl D x), (fun x y => if x = r ∧ y = jDz D r then f else jDv D x y), (fun x y => if x = r ∧ y = jDz D r then v else jDc D x y), jDt D)
theorem jUw_z (r : Nat) (f : Nat → Nat) (v x : Nat) : jDz (jUw D r f v) x = if x = r then jDz D r + 1 else jDz D x := rfl
theorem jUw_l (r : Nat) (f : Nat → Nat) (v x : Nat) : jDl (jUw D r f v) x = if x = r then jDl D r ||| 2 ^ jDz D r else jDl D x := rfl
theorem jUw_v (r : Nat) (f : Nat → Nat) (v x y : Nat) : jDv (jUw D r f v) x y = if x = r ∧ y = jDz D r then f else jDv D x y := rfl
theorem jUw_c (r : Nat) (f : Nat → Nat) (v x y : Nat) : jDc (jUw D r f v) x y = if x = r ∧ y = jDz D r then v else jDc D x y := rfl
theorem jDok_w {r v : Nat} {f : Nat → Nat} (hD : jDok D) (hr : r < jDn D) (h8 : jDz D r < 8) (hf : (∀ a, f a < 10) ∧ ∀ a, (jDa D r).testBit a = false → f a = 0) (hv : 1 ≤ v ∧ v ≤ 2000000000) : jDok (jUw D r f v) := by
  obtain ⟨h1, h2, h3, h4, h5⟩ := hD
  refine ⟨h1, h2, fun x hx => ?_, h4, fun x hx => ?_⟩
  · obtain ⟨a1, a2, a3, a4, a5⟩ := h3 x hx
    by_cases e : x = r
    · subst e
      refine ⟨a1, a2, ?_, ?_, fun y hy => ?_⟩
      · rw [jUw_z, if_pos rfl]; omega
      · rw [jUw_z, jUw_l, if_pos rfl, if_pos rfl]
        exact Nat.or_lt_two_pow (Nat.lt_of_lt_of_le a4 (Nat.pow_le_pow_right (by omega) (by omega))) (Nat.pow_lt_pow_right (by omega) (by omega))
      · rw [jUw_z, if_pos rfl] at hy
        rw [jUw_v, jUw_c]
        by_cases ey : y = jDz D x
        · rw [if_pos ⟨rfl, ey⟩, if_pos ⟨rfl, ey⟩]
          exact ⟨hf.1, hf.2, hv⟩
        · rw [if_neg (fun h => ey h.2), if_neg (fun h => ey h.2)]
          exact a5 y (by omega)
    · refine ⟨a1, a2, ?_, ?_, fun y hy => ?_⟩
      · rw [jUw_z, if_neg e]; exact a3
      · rw [jUw_z, jUw_l, if_neg e, if_neg e]; exact a4
      · rw [jUw_z, if_neg e] at hy
        rw [jUw_v, jUw_c, if_neg (show ¬ (x = r ∧ y = jDz D r) from fun h => e h.1), if_neg (show ¬ (x = r ∧ y = jDz D r) from fun h => e h.1)]
        exact a5 y hy
  · have hx : jDn D ≤ x := hx
    rw [jUw_z, jUw_l, if_neg (by omega), if_neg (by omega)]
    exact h5 x hx
/-- the cells of a new row -/
def jyZw (r z : Nat) (b i : Nat) : Prop := (b = 108 ∧ 48 * r + 6 * z ≤ i ∧ i < 48 * r + 6 * z + 6) ∨ (b = 109 ∧ i = 8 * r + z) ∨ (b = 110 ∧ i = 8 * r + z) ∨ (b = 107 ∧ i = r)
theorem jRf_w (hD : jDok D) {m m' : jMe} {r v : Nat} {f : Nat → Nat} (hr : r < 4) (h8 : jDz D r < 8) (h : jRf D S m) (hfx : jfx (jyZw r (jDz D r)) m m') (hs : jyS D r (jDz D r) f m') (hc : jI m' 109 (8 * r + jDz D r) = Int32.ofNat v) (hl : jI m' 110 (8 * r + jDz D r) = 1) (hz : jI m' 107 r = Int32.ofNat (jDz D r + 1)) : jRf (jUw D r f v) S m' := by
  obtain ⟨h1, ⟨c1, c2, c3, c4⟩, h3, h4⟩ := h
  refine ⟨jLM_fx hfx h1, ⟨?_, ?_, ?_, fun x hx => ?_⟩, ?_, ?_⟩
  · rw [hfx.I (by unfold jyZw; omega)]; exact c1
  · rw [hfx.I (by unfold jyZw; omega)]; exact c2
  · rw [hfx.I (by unfold jyZw; omega)]; exact c3
  · obtain ⟨d1, d2, d3, d4⟩ := c4 x hx
    have hzx := (hD.2.2.1 x hx).2.2.1
    have hlx := jz256 (hD.2.2.1 x hx).2.2.2.1 hzx
    refine ⟨by rw [hfx.I (by unfold jyZw; omega)]; exact d1, by rw [hfx.I (by unfold jyZw; omega)]; exact d2, ?_, fun y hy => ?_⟩
    · rw [jUw_z]
      by_cases e : x = r
      · rw [if_pos e, e]; exact hz
      · rw [if_neg e, hfx.I (by unfold jyZw; omega)]; exact d3
    · rw [jUw_z] at hy
      by_cases e : x = r
      · subst e
        rw [if_pos rfl] at hy
        by_cases ey : y = jDz D x
        · subst ey
          refine ⟨fun a ha => ?_, ?_, ?_⟩
          · unfold jDw
            rw [jUw_v, if_pos (show x = x ∧ jDz D x = jDz D x from ⟨rfl, rfl⟩)]
            exact (hs a ha).1
          · rw [jUw_c, if_pos ⟨rfl, rfl⟩]
            exact hc
          · rw [jUw_l, if_pos rfl, hl, Nat.testBit_or, Nat.testBit_two_pow, decide_eq_true rfl, Bool.or_true]
            rfl
        · obtain ⟨e1, e2, e3⟩ := d4 y (by omega)
          refine ⟨fun a ha => ?_, ?_, ?_⟩
          · unfold jDw
            rw [jUw_v, if_neg (show ¬ (x = x ∧ y = jDz D x) from fun h => ey h.2), hfx.I (by unfold jyZw; omega)]
            exact e1 a ha
          · rw [jUw_c, if_neg (fun h => ey h.2), hfx.I (by unfold jyZw; omega)]
            exact e2
          · rw [jUw_l, if_pos rfl, Nat.testBit_or, Nat.testBit_two_pow, decide_eq_false (fun h => ey h.symm), Bool.or_false, hfx.I (by unfold jyZw; omega)]
            exact e3
      · rw [if_neg e] at hy
        obtain ⟨e1, e2, e3⟩ := d4 y hy
        refine ⟨fun a ha => ?_, ?_, ?_⟩
        · unfold jDw
          rw [jUw_v, if_neg (show ¬ (x = r ∧ y = jDz D r) from fun h => e h.1), hfx.I (by unfold jyZw; omega)]
          exact e1 a ha
        · rw [jUw_c, if_neg (fun h => e h.1), hfx.I (by unfold jyZw; omega)]
          exact e2
        · rw [jUw_l, if_neg e, hfx.I (by unfold jyZw; omega)]
          exact e3
  · obtain ⟨g1, g2, x, y, g3, g4, g5, g6⟩ := h3
    exact ⟨by rw [hfx.I (by unfold jyZw; omega)]; exact g1, fun t ht => ⟨by rw [hfx.I (by unfold jyZw; omega)]; exact (g2 t ht).1, fun i hi => by rw [hfx.I (by unfold jyZw; omega)]; exact (g2 t ht).2 i hi⟩, x, y, g3, g4, by rw [hfx.I (by unfold jyZw; omega)]; exact g5, by rw [hfx.I (by unfold jyZw; omega)]; exact g6⟩
  · intro p hp
    have h4p := h4 p hp
    rw [hfx.L (by unfold jyZw; omega), hfx.I (by unfold jyZw; omega)]
    exact h4p
def jrowr (D : jD) (x1 x2 x3 x4 x5 : Int32) : Int32 × jD := if (jin x1 (jDn D) && jbt2 x5 1 2000000000) = true then (match jpkd (jDa D x1.toNatClampNeg) (jxyz x2 x3 x4) 6 0 0 with
  | none => (-2, D)
  | some f => if jtk D x1.toNatClampNeg f = true then (if jDz D x1.toNatClampNeg = 8 then (-4, D) else (Int32.ofNat (jDz D x1.toNatClampNeg), jUw D x1.toNatClampNeg f x5.toNatClampNeg)) else (-3, D)) else (-2, D)
theorem y_row_j87 (hF : 1000 < F) (hDS : jDS D S) {m : jMe} (hQ : jyQ D S m) {r v : Nat} (hr : r < jDn D) (hv : 1 ≤ v ∧ v ≤ 2000000000) {x y z : Int32} {f : Nat → Nat} (hp : jpkd (jDa D r) (jxyz x y z) 6 0 0 = some f) : ∃ m', c_X10_row_j87 F m 101 (Int32.ofNat r) x y z (Int32.ofNat v) = some ((if jtk D r f = true then (if jDz D r = 8 then (-4, D) else (Int32.ofNat (jDz D r), jUw D r f v)) else (-3, D) : Int32 × jD).1, m') ∧ jfx (fun a _ => 107 ≤ a ∧ a ≤ 110) m m' ∧ jyQ (if jtk D r f = true then (if jDz D r = 8 then (-4, D) else (Int32.ofNat (jDz D r), jUw D r f v)) else (-3, D) : Int32 × jD).2 S m' ∧ jDS (if jtk D r f = true then (if jDz D r = 8 then (-4, D) else (Int32.ofNat (jDz D r), jUw D r f v)) else (-3, D) : Int32 × jD).2 S := by
  have hD := hDS.1
  have hL := hQ.1.1
  have hr4 : r < 4 := Nat.lt_of_lt_of_le hr hD.1
  have hDr := hD.2.2.1 r hr4
  have hz := hDr.2.2.1
  obtain ⟨c1, c2, c3, c4⟩ := hQ.1.2.1.2.2.2 r hr4
  unfold c_X10_row_j87
  rw [jgd_t hL.1, jp_107 hL, jgd_t (jk_107 hL), jz_107 hL, jgd_t (ji_int (by omega) hr4), ji_n (by omega), c3]
  by_cases h8 : jDz D r = 8
  · rw [if_pos (show Int32.ofNat (jDz D r) = 8 by rw [h8]; rfl), y_isFull (by omega) hD hQ.1 hr h8 hp, jb_some]
    cases e : jtk D r f with
    | false => exact ⟨m, rfl, jfx.rfl, hQ, hDS⟩
    | true =>
      rw [if_neg (show ¬ jbi true = 0 by decide), if_pos (show true = true from rfl), if_pos h8]
      exact ⟨m, rfl, jfx.rfl, hQ, hDS⟩
  · have hl0 : (jDl D r).testBit (jDz D r) = false := Nat.testBit_lt_two_pow hDr.2.2.2.1
    obtain ⟨m1, a1, a2, a3, a4⟩ := y_stands (F := F) (by omega) hD hr (show jDz D r < 8 by omega) rfl hp hQ.1
    have hL1 := a3.1
    have hQ1 : jyQ D S m1 := jyQ_fx a2 (by omega) a3 hQ
    rw [if_neg (show ¬ Int32.ofNat (jDz D r) = 8 from ji_eqn (b := 8) (by omega) (by omega) h8), a1, jb_some, jgd_t hL1.1, y_isTaken (by omega) hD a3 hr (by omega) a4 hl0, jb_some]
    cases e : jtk D r f with
    | false =>
      rw [if_pos (show jbi false = 0 from rfl), if_neg (show ¬ false = true by decide)]
      exact ⟨m1, rfl, a2.weak (fun a i h => by omega), hQ1, hDS⟩
    | true =>
      rw [if_neg (show ¬ jbi true = 0 by decide), if_pos (show true = true from rfl), if_neg h8, jp_109 hL1, jgd_t (jk_109 hL1), jz_109 hL1, show (8 : Int32) = Int32.ofNat 8 from rfl, ji_mul, ji_add, jgd_t (ji_int (by omega) (by omega)), ji_n (by omega), jvn_1]
      have fx1 : jfx (jyZw r (jDz D r)) m1 (jsI m1 109 (8 * r + jDz D r) (Int32.ofNat v)) := jfx_I (Or.inr (Or.inl ⟨rfl, rfl⟩))
      have v1 : jI (jsI m1 109 (8 * r + jDz D r) (Int32.ofNat v)) 109 (8 * r + jDz D r) = Int32.ofNat v := jsI_y
      have o1 : ∀ b i, b ≠ 109 → jI (jsI m1 109 (8 * r + jDz D r) (Int32.ofNat v)) b i = jI m1 b i := fun b i h => jsI_no (by omega)
      have kk1 : jK (jsI m1 109 (8 * r + jDz D r) (Int32.ofNat v)) = jK m1 := rfl
      have zz1 : jZ (jsI m1 109 (8 * r + jDz D r) (Int32.ofNat v)) = jZ m1 := rfl
      generalize jsI m1 109 (8 * r + jDz D r) (Int32.ofNat v) = m2 at fx1 v1 o1 kk1 zz1 ⊢
      have hL2 := jLM_fx fx1 hL1
      rw [jp_110 hL2, jgd_t (show jK m1 110 = 4 from jk_110 hL1), jgd_t (show jin (Int32.ofNat (8 * r + jDz D r)) (jZ m1 110) = true by rw [jz_110 hL1]; exact ji_int (by omega) (by omega))]
      have fx2 : jfx (jyZw r (jDz D r)) m2 (jsI m2 110 (8 * r + jDz D r) (1 : Int32)) := jfx_I (Or.inr (Or.inr (Or.inl ⟨rfl, rfl⟩)))
      have v2 : jI (jsI m2 110 (8 * r + jDz D r) (1 : Int32)) 110 (8 * r + jDz D r) = 1 := jsI_y
      have o2 : ∀ b i, b ≠ 110 → jI (jsI m2 110 (8 * r + jDz D r) (1 : Int32)) b i = jI m2 b i := fun b i h => jsI_no (by omega)
      generalize jsI m2 110 (8 * r + jDz D r) (1 : Int32) = m3 at fx2 v2 o2 ⊢
      have hL3 := jLM_fx fx2 hL2
      have z3 : jI m3 107 r = Int32.ofNat (jDz D r) := by
        rw [o2 _ _ (by decide), o1 _ _ (by decide), a2.I (by omega)]
        exact c3
      rw [jp_107 hL3, jgd_t (show jK m1 107 = 1 from jk_107 hL1), jgd_t (show jin (Int32.ofNat r) (jZ m1 107) = true by rw [jz_107 hL1]; exact ji_int (by omega) hr4), jgd_t (show jin (Int32.ofNat r) (jZ m1 107) = true by rw [jz_107 hL1]; exact ji_int (by omega) hr4), z3, show Int32.ofNat (jDz D r) + 1 = Int32.ofNat (jDz D r + 1) from ji_add _ 1, jlet_m]
      have fx3 : jfx (jyZw r (jDz D r)) m3 (jsI m3 107 r (Int32.ofNat (jDz D r + 1))) := jfx_I (Or.inr (Or.inr (Or.inr ⟨rfl, rfl⟩)))
      have v3 : jI (jsI m3 107 r (Int32.ofNat (jDz D r + 1))) 107 r = Int32.ofNat (jDz D r + 1) := jsI_y
      have o3 : ∀ b i, b ≠ 107 → jI (jsI m3 107 r (Int32.ofNat (jDz D r + 1))) b i = jI m3 b i := fun b i h => jsI_no (by omega)
      generalize jsI m3 107 r (Int32.ofNat (jDz D r + 1)) = m4 at fx3 v3 o3 ⊢
      have fa : jfx (jyZw r (jDz D r)) m m4 := (((a2.weak (fun a i h => Or.inl h)).trans fx1).trans fx2).trans fx3
      have hs4 : jyS D r (jDz D r) f m4 := fun a ha => by
        rw [o3 _ _ (by decide), o2 _ _ (by decide), o1 _ _ (by decide)]
        exact a4 a ha
      have hR4 := jRf_w (v := v) hD hr4 (by omega) hQ.1 fa hs4 (by rw [o3 _ _ (by decide), o2 _ _ (by decide)]; exact v1) (by rw [o3 _ _ (by decide)]; exact v2) v3
      obtain ⟨q1, q2, q3⟩ := jpkd_s hD hr hp
      obtain ⟨p1, p2, p3⟩ := jatt_all hDr.2.1 (hD.2.2.2.1 r hr).2
      have hf10 : ∀ a, f a < 10 := fun a => by
        by_cases e6 : a < 6
        · cases eb : (jDa D r).testBit a with
          | true =>
            obtain ⟨i, i1, i2⟩ := p2 a e6 eb
            exact (q2 i a i2 i1).2
          | false => rw [q3 a (Or.inr eb)]; omega
        · rw [q3 a (Or.inl (by omega))]; omega
      refine ⟨m4, rfl, fa.weak (fun a i h => by unfold jyZw at h; omega), jyQ_101 hQ hR4 (fa.I (by unfold jyZw; omega)) (fa.I (by unfold jyZw; omega)) (fa.I (by unfold jyZw; omega)), jDok_w hD hr (by omega) ⟨hf10, fun a h => q3 a (Or.inr h)⟩ hv, hDS.2⟩
end YROW2
