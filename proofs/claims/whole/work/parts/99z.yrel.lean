/-! relations; bytes, as the reference takes them -/
section YREL2
variable {F : Nat} {D : jD} {S : jTS}
def jUn (D : jD) (k a : Nat) : jD := ((jDn D + 1, D.1.2.1, D.1.2.2), (fun x => if x = jDn D then k else jDk D x), (fun x => if x = jDn D then a else jDa D x), D.2.2.2)
theorem jUn_k (k a x : Nat) : jDk (jUn D k a) x = if x = jDn D then k else jDk D x := rfl
theorem jUn_a (k a x : Nat) : jDa (jUn D k a) x = if x = jDn D then a else jDa D x := rfl
theorem jDok_n {k a : Nat} (hD : jDok D) (h4 : jDn D < 4) (hk : k < 6) (ha : 1 ≤ a ∧ a < 64) (hp : jpop 8 a ≤ 3) : jDok (jUn D k a) := by
  obtain ⟨h1, h2, h3, h5, h6⟩ := hD
  refine ⟨?_, ?_, fun x hx => ?_, fun x hx => ?_, fun x hx => ?_⟩
  · show jDn D + 1 ≤ 4
    omega
  · show jDq D < 2 ^ (jDn D + 1)
    rw [Nat.pow_succ]
    omega
  · obtain ⟨a1, a2, a3, a4, a5⟩ := h3 x hx
    by_cases e : x = jDn D
    · have hz : jDz D x = 0 := (h6 x (by omega)).1
      refine ⟨?_, ?_, a3, a4, fun y hy => ?_⟩
      · rw [jUn_k, if_pos e]; exact hk
      · rw [jUn_a, if_pos e]; exact ha.2
      · have hy : y < jDz D x := hy
        omega
    · refine ⟨?_, ?_, a3, a4, fun y hy => ⟨(a5 y hy).1, fun b hb => ?_, (a5 y hy).2.2⟩⟩
      · rw [jUn_k, if_neg e]; exact a1
      · rw [jUn_a, if_neg e]; exact a2
      · rw [jUn_a, if_neg e] at hb
        exact (a5 y hy).2.1 b hb
  · have hx : x < jDn D + 1 := hx
    rw [jUn_a]
    by_cases e : x = jDn D
    · rw [if_pos e]
      exact ⟨ha.1, hp⟩
    · rw [if_neg e]
      exact h5 x (by omega)
  · have hx : jDn D + 1 ≤ x := hx
    exact h6 x (by omega)
def jyZn (n b i : Nat) : Prop := ((b = 105 ∨ b = 106 ∨ b = 107) ∧ i = n) ∨ (b = 101 ∧ i = 10)
theorem jRf_n (hD : jDok D) {m m' : jMe} {k a : Nat} (h4n : jDn D < 4) (h : jRf D S m) (hfx : jfx (jyZn (jDn D)) m m') (g1 : jI m' 105 (jDn D) = Int32.ofNat k) (g2 : jI m' 106 (jDn D) = Int32.ofNat a) (g3 : jI m' 107 (jDn D) = 0) (g4 : jI m' 101 10 = Int32.ofNat (jDn D + 1)) : jRf (jUn D k a) S m' := by
  obtain ⟨h1, ⟨c1, c2, c3, c4⟩, h3, h4⟩ := h
  refine ⟨jLM_fx hfx h1, ⟨g4, ?_, ?_, fun x hx => ?_⟩, ?_, ?_⟩
  · rw [hfx.I (by unfold jyZn; omega)]; exact c2
  · rw [hfx.I (by unfold jyZn; omega)]; exact c3
  · obtain ⟨d1, d2, d3, d4⟩ := c4 x hx
    rw [jUn_k, jUn_a]
    by_cases e : x = jDn D
    · have hz : jDz D x = 0 := (hD.2.2.2.2 x (by omega)).1
      rw [if_pos e, if_pos e, e]
      refine ⟨g1, g2, ?_, fun y hy => ?_⟩
      · rw [g3]
        show (0 : Int32) = Int32.ofNat (jDz D (jDn D))
        rw [← e, hz]
        rfl
      · have hy : y < jDz D (jDn D) := hy
        rw [← e, hz] at hy
        omega
    · rw [if_neg e, if_neg e]
      refine ⟨by rw [hfx.I (by unfold jyZn; omega)]; exact d1, by rw [hfx.I (by unfold jyZn; omega)]; exact d2, by rw [hfx.I (by unfold jyZn; omega)]; exact d3, fun y hy => ?_⟩
      obtain ⟨e1, e2, e3⟩ := d4 y hy
      refine ⟨fun b hb => ?_, by rw [hfx.I (by unfold jyZn; omega)]; exact e2, by rw [hfx.I (by unfold jyZn; omega)]; exact e3⟩
      rw [hfx.I (by unfold jyZn; omega), e1 b hb]
      unfold jDw
      rw [jUn_a, if_neg e]
      rfl
  · obtain ⟨g1, g2, x, y, g3, g4, g5, g6⟩ := h3
    exact ⟨by rw [hfx.I (by unfold jyZn; omega)]; exact g1, fun t ht => ⟨by rw [hfx.I (by unfold jyZn; omega)]; exact (g2 t ht).1, fun i hi => by rw [hfx.I (by unfold jyZn; omega)]; exact (g2 t ht).2 i hi⟩, x, y, g3, g4, by rw [hfx.I (by unfold jyZn; omega)]; exact g5, by rw [hfx.I (by unfold jyZn; omega)]; exact g6⟩
  · intro p hp
    have h4p := h4 p hp
    rw [hfx.L (by unfold jyZn; omega), hfx.I (by unfold jyZn; omega)]
    exact h4p
def jrela (D : jD) (x1 x2 : Int32) : Int32 × jD := if (jbt2 x1 0 5 && (jbt2 x2 1 63 && decide (jpop 8 x2.toNatClampNeg ≤ 3))) = true then (if jDn D = 4 then (-4, D) else (Int32.ofNat (jDn D), jUn D x1.toNatClampNeg x2.toNatClampNeg)) else (-2, D)
theorem y_relation (hF : 100 < F) (hDS : jDS D S) {m : jMe} (hQ : jyQ D S m) {x1 x2 : Int32} : ∃ m', c_X10_relation F m 101 x1 x2 = some ((jrela D x1 x2).1, m') ∧ jfx (fun a i => (105 ≤ a ∧ a ≤ 107) ∨ (a = 101 ∧ i = 10)) m m' ∧ jyQ (jrela D x1 x2).2 S m' ∧ jDS (jrela D x1 x2).2 S := by
  have hD := hDS.1
  have hL := hQ.1.1
  have hn := hD.1
  unfold c_X10_relation jrela
  rw [show c_X10_in F m (Int32.toInt64 x1) (0 : Int64) (5 : Int64) = some (jbi (jbt2 x1 0 5)) from q_in_int (lo := 0) (hi := 5) (by omega) (by omega), jb_some]
  cases e1 : jbt2 x1 0 5 with
  | false => exact ⟨m, rfl, jfx.rfl, hQ, hDS⟩
  | true =>
    obtain ⟨k, rfl, hk, _, hk5⟩ := jbt2_nat e1
    rw [if_neg (show ¬ jbi true = 0 by decide), show c_X10_in F m (Int32.toInt64 x2) (1 : Int64) (63 : Int64) = some (jbi (jbt2 x2 1 63)) from q_in_int (lo := 1) (hi := 63) (by omega) (by omega), jb_some, ji_n hk, Bool.true_and]
    cases e2 : jbt2 x2 1 63 with
    | false => exact ⟨m, rfl, jfx.rfl, hQ, hDS⟩
    | true =>
      obtain ⟨a, rfl, ha, ha1, ha63⟩ := jbt2_nat e2
      have hpl := jpop_le 8 a
      rw [if_neg (show ¬ jbi true = 0 by decide), q_bitsOf hF (by omega), jb_some, ji_n ha, Bool.true_and]
      by_cases e3 : jpop 8 a ≤ 3
      · rw [if_pos (show Int32.ofNat (jpop 8 a) ≤ 3 from ji_lep (b := 3) (by omega) (by omega) e3), decide_eq_true e3, if_pos (show true = true from rfl), jgd_t hL.1, hQ.1.2.1.1]
        by_cases e4 : jDn D = 4
        · rw [if_pos (show Int32.ofNat (jDn D) = 4 by rw [e4]; rfl), if_pos e4]
          exact ⟨m, rfl, jfx.rfl, hQ, hDS⟩
        · have h4 : jDn D < 4 := by omega
          rw [if_neg (show ¬ Int32.ofNat (jDn D) = 4 from ji_eqn (b := 4) (by omega) (by omega) e4), if_neg e4, jp_105 hL, jgd_t (jk_105 hL), jz_105 hL, jgd_t (ji_int (by omega) h4), ji_n (by omega)]
          have fx1 : jfx (jyZn (jDn D)) m (jsI m 105 (jDn D) (Int32.ofNat k)) := jfx_I (Or.inl ⟨Or.inl rfl, rfl⟩)
          have v1 : jI (jsI m 105 (jDn D) (Int32.ofNat k)) 105 (jDn D) = Int32.ofNat k := jsI_y
          have o1 : ∀ b i, b ≠ 105 → jI (jsI m 105 (jDn D) (Int32.ofNat k)) b i = jI m b i := fun b i h => jsI_no (by omega)
          generalize jsI m 105 (jDn D) (Int32.ofNat k) = m1 at fx1 v1 o1 ⊢
          have hL1 := jLM_fx fx1 hL
          have n1 : jI m1 101 10 = Int32.ofNat (jDn D) := by rw [o1 _ _ (by decide)]; exact hQ.1.2.1.1
          rw [jp_106 hL1, jgd_t (show jK m 106 = 1 from jk_106 hL), n1, jgd_t (show jin (Int32.ofNat (jDn D)) (jZ m 106) = true by rw [jz_106 hL]; exact ji_int (by omega) h4), ji_n (by omega)]
          have fx2 : jfx (jyZn (jDn D)) m1 (jsI m1 106 (jDn D) (Int32.ofNat a)) := jfx_I (Or.inl ⟨Or.inr (Or.inl rfl), rfl⟩)
          have v2 : jI (jsI m1 106 (jDn D) (Int32.ofNat a)) 106 (jDn D) = Int32.ofNat a := jsI_y
          have o2 : ∀ b i, b ≠ 106 → jI (jsI m1 106 (jDn D) (Int32.ofNat a)) b i = jI m1 b i := fun b i h => jsI_no (by omega)
          generalize jsI m1 106 (jDn D) (Int32.ofNat a) = m2 at fx2 v2 o2 ⊢
          have hL2 := jLM_fx fx2 hL1
          have n2 : jI m2 101 10 = Int32.ofNat (jDn D) := by rw [o2 _ _ (by decide)]; exact n1
          rw [jp_107 hL2, jgd_t (show jK m 107 = 1 from jk_107 hL), n2, jgd_t (show jin (Int32.ofNat (jDn D)) (jZ m 107) = true by rw [jz_107 hL]; exact ji_int (by omega) h4), ji_n (by omega), jlet_m]
          have fx3 : jfx (jyZn (jDn D)) m2 (jsI m2 107 (jDn D) (0 : Int32)) := jfx_I (Or.inl ⟨Or.inr (Or.inr rfl), rfl⟩)
          have v3 : jI (jsI m2 107 (jDn D) (0 : Int32)) 107 (jDn D) = 0 := jsI_y
          have o3 : ∀ b i, b ≠ 107 → jI (jsI m2 107 (jDn D) (0 : Int32)) b i = jI m2 b i := fun b i h => jsI_no (by omega)
          generalize jsI m2 107 (jDn D) (0 : Int32) = m3 at fx3 v3 o3 ⊢
          have hL3 := jLM_fx fx3 hL2
          have n3 : jI m3 101 10 = Int32.ofNat (jDn D) := by rw [o3 _ _ (by decide)]; exact n2
          rw [jgd_t hL3.1, n3, show Int32.ofNat (jDn D) + 1 = Int32.ofNat (jDn D + 1) from ji_add _ 1]
          have fx4 : jfx (jyZn (jDn D)) m3 (jsI m3 101 10 (Int32.ofNat (jDn D + 1))) := jfx_I (Or.inr ⟨rfl, rfl⟩)
          have v4 : jI (jsI m3 101 10 (Int32.ofNat (jDn D + 1))) 101 10 = Int32.ofNat (jDn D + 1) := jsI_y
          have o4 : ∀ b i, b ≠ 101 → jI (jsI m3 101 10 (Int32.ofNat (jDn D + 1))) b i = jI m3 b i := fun b i h => jsI_no (by omega)
          generalize jsI m3 101 10 (Int32.ofNat (jDn D + 1)) = m4 at fx4 v4 o4 ⊢
          have fa : jfx (jyZn (jDn D)) m m4 := ((fx1.trans fx2).trans fx3).trans fx4
          have hR4 := jRf_n hD h4 hQ.1 fa (by rw [o4 _ _ (by decide), o3 _ _ (by decide), o2 _ _ (by decide)]; exact v1) (by rw [o4 _ _ (by decide), o3 _ _ (by decide)]; exact v2) (by rw [o4 _ _ (by decide)]; exact v3) v4
          rw [v4, show Int32.ofNat (jDn D + 1) - 1 = Int32.ofNat (jDn D) from by rw [show (1 : Int32) = Int32.ofNat 1 from rfl, ji_sub (by omega)]; rfl]
          exact ⟨m4, rfl, fa.weak (fun b i h => by unfold jyZn at h; omega), jyQ_101 hQ hR4 (fa.I (by unfold jyZn; omega)) (fa.I (by unfold jyZn; omega)) (fa.I (by unfold jyZn; omega)), jDok_n hD h4 (by omega) ⟨ha1, by omega⟩ e3, hDS.2⟩
      · rw [if_neg (show ¬ Int32.ofNat (jpop 8 a) ≤ 3 from ji_len (b := 3) (by omega) (by omega) e3), decide_eq_false e3]
        exact ⟨m, rfl, jfx.rfl, hQ, hDS⟩
end YREL2
