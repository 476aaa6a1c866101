/-! rows removed; copies; the query; the rule, as the reference sets them -/
section YSET
variable {F : Nat} {D : jD} {S : jTS}
theorem jyQ_101 {D' : jD} {m m' : jMe} (h : jyQ D S m) (hR : jRf D' S m') (h29 : jI m' 101 29 = jI m 101 29) (h37 : jI m' 101 37 = jI m 101 37) (h39 : jI m' 101 39 = jI m 101 39) : jyQ D' S m' := by
  obtain ⟨_, ⟨x, h2, h3⟩, h4, h5⟩ := h
  exact ⟨hR, ⟨x, h2, by rw [h29]; exact h3⟩, by rw [h37]; exact h4, by rw [h39]; exact h5⟩
def jremv (D : jD) (x1 x2 : Int32) : Int32 × jD := if jrow D x1 x2 = true then (if (jDl D x1.toNatClampNeg).testBit x2.toNatClampNeg = true ∧ jisa (jDk D x1.toNatClampNeg) 2 = false then (Int32.ofNat (jpop 8 (jli (jDl D x1.toNatClampNeg) x2.toNatClampNeg false)), jwD D x1.toNatClampNeg x2.toNatClampNeg) else (-3, D)) else (-2, D)
theorem y_remove (hF : 1000 < F) (hDS : jDS D S) {m : jMe} (hQ : jyQ D S m) {x1 x2 : Int32} : ∃ m', c_X10_remove F m 101 x1 x2 = some ((jremv D x1 x2).1, m') ∧ jfx (fun a _ => a = 110) m m' ∧ jyQ (jremv D x1 x2).2 S m' ∧ jDS (jremv D x1 x2).2 S := by
  have hD := hDS.1
  have hL := hQ.1.1
  unfold c_X10_remove jremv
  rw [jgd_t hL.1, y_isRow hL hQ.1.2.1 hD, jb_some]
  cases e1 : jrow D x1 x2 with
  | false => exact ⟨m, rfl, jfx.rfl, hQ, hDS⟩
  | true =>
    obtain ⟨r, k, rfl, rfl, hr, hk, hr2, hk2⟩ := jrow_nat e1
    have hr4 : r < 4 := Nat.lt_of_lt_of_le hr hD.1
    have hDr := hD.2.2.1 r hr4
    have hz := hDr.2.2.1
    have hn : ¬ jDn D ≤ r := by omega
    obtain ⟨c1, c2, c3, c4⟩ := hQ.1.2.1.2.2.2 r hr4
    rw [if_neg (show ¬ jbi true = 0 by decide), if_pos rfl, ji_n hr2, ji_n hk2, jp_110 hL, jgd_t (jk_110 hL), jz_110 hL, show (8 : Int32) = Int32.ofNat 8 from rfl, ji_mul, ji_add, jgd_t (ji_int (by omega) (by omega)), ji_n (by omega), (c4 k hk).2.2, jp_105 hL, jgd_t (jk_105 hL), jz_105 hL, jgd_t (ji_int (by omega) hr4), jgd_t (ji_int (by omega) (by omega)), c1, show c_X10_isUnder F m (Int32.ofNat (jDk D r)) (2 : Int32) = some (jbi (jisa (jDk D r) 2)) from y_isUnder (i := 2) (by omega) (by omega) hDr.1, jb_some, jvn_0]
    cases e2 : (jDl D r).testBit k with
    | false =>
      rw [if_pos (show jbi false = 0 from rfl), if_neg (fun h => by cases h.1)]
      exact ⟨m, rfl, jfx.rfl, hQ, hDS⟩
    | true =>
      rw [if_neg (show ¬ jbi true = 0 by decide)]
      cases e3 : jisa (jDk D r) 2 with
      | true =>
        rw [if_neg (show ¬ jbi true = 0 by decide), if_neg (fun h => by cases h.2)]
        exact ⟨m, rfl, jfx.rfl, hQ, hDS⟩
      | false =>
        rw [if_pos (show jbi false = 0 from rfl), if_pos ⟨rfl, rfl⟩]
        have hDS1 : jDS (jwD D r k) S := jDS_l hDS hr4 (jli_lt hDr.2.2.2.1 hk) (fun h => absurd h hn)
        have hQ1 := jyQ_l (b := false) hD hr4 hk hQ
        have hlt : jli (jDl D r) k false < 256 := jz256 (jli_lt hDr.2.2.2.1 hk) hz
        have hlv := y_liveOf (F := F) (by omega) hQ1.1 hDS1.1 hr4
        rw [jUl_l, if_pos rfl] at hlv
        rw [show jsI m 110 (8 * r + k) (0 : Int32) = jsI m 110 (8 * r + k) (jbi false) from rfl, hlv, jb_some, q_bitsOf (by omega) hlt, jb_some]
        exact ⟨_, rfl, jfx_I rfl, hQ1, hDS1⟩
theorem jDok_c {r k v : Nat} (hD : jDok D) (hv : 1 ≤ v ∧ v ≤ 2000000000) : jDok (jUc D r k v) := by
  obtain ⟨h1, h2, h3, h4, h5⟩ := hD
  refine ⟨h1, h2, fun x hx => ?_, h4, h5⟩
  obtain ⟨a1, a2, a3, a4, a5⟩ := h3 x hx
  refine ⟨a1, a2, a3, a4, fun y hy => ⟨(a5 y hy).1, (a5 y hy).2.1, ?_⟩⟩
  show 1 ≤ (if x = r ∧ y = k then v else jDc D x y) ∧ (if x = r ∧ y = k then v else jDc D x y) ≤ 2000000000
  by_cases e : x = r ∧ y = k
  · rw [if_pos e]
    exact hv
  · rw [if_neg e]
    exact (a5 y hy).2.2
theorem jRf_c {m : jMe} (hD : jDok D) {r k v : Nat} (hr : r < 4) (hk : k < jDz D r) (h : jRf D S m) : jRf (jUc D r k v) S (jsI m 109 (8 * r + k) (Int32.ofNat v)) := by
  have hfx : jfx (fun a i => a = 109 ∧ i = 8 * r + k) m (jsI m 109 (8 * r + k) (Int32.ofNat v)) := jfx_I ⟨rfl, rfl⟩
  have hz := (hD.2.2.1 r hr).2.2.1
  obtain ⟨h1, ⟨c1, c2, c3, c4⟩, h3, h4⟩ := h
  refine ⟨jLM_fx hfx h1, ⟨?_, ?_, ?_, fun x hx => ?_⟩, ?_, ?_⟩
  · rw [hfx.I (by omega)]; exact c1
  · rw [hfx.I (by omega)]; exact c2
  · rw [hfx.I (by omega)]; exact c3
  · obtain ⟨d1, d2, d3, d4⟩ := c4 x hx
    have hzx := (hD.2.2.1 x hx).2.2.1
    refine ⟨by rw [hfx.I (by omega)]; exact d1, by rw [hfx.I (by omega)]; exact d2, by rw [hfx.I (by omega)]; exact d3, fun y hy => ?_⟩
    have hy : y < jDz D x := hy
    obtain ⟨e1, e2, e3⟩ := d4 y hy
    refine ⟨fun a ha => by rw [hfx.I (by omega)]; exact e1 a ha, ?_, by rw [hfx.I (by omega)]; exact e3⟩
    show _ = Int32.ofNat (if x = r ∧ y = k then v else jDc D x y)
    rw [jsI_g]
    by_cases e : x = r ∧ y = k
    · rw [if_pos e, if_pos ⟨rfl, by rw [e.1, e.2]⟩]
    · rw [if_neg e, if_neg (by omega)]
      exact e2
  · obtain ⟨g1, g2, x, y, g3, g4, g5, g6⟩ := h3
    exact ⟨by rw [hfx.I (by omega)]; exact g1, fun t ht => ⟨by rw [hfx.I (by omega)]; exact (g2 t ht).1, fun i hi => by rw [hfx.I (by omega)]; exact (g2 t ht).2 i hi⟩, x, y, g3, g4, by rw [hfx.I (by omega)]; exact g5, by rw [hfx.I (by omega)]; exact g6⟩
  · intro p hp
    have h4p := h4 p hp
    rw [hfx.L (by omega), hfx.I (by omega)]
    exact h4p
def jcops (D : jD) (x1 x2 x3 : Int32) : Int32 × jD := if (jrow D x1 x2 && jbt2 x3 1 2000000000) = true then (Int32.ofNat (jDc D x1.toNatClampNeg x2.toNatClampNeg), jUc D x1.toNatClampNeg x2.toNatClampNeg x3.toNatClampNeg) else (-2, D)
theorem y_copies (hDS : jDS D S) {m : jMe} (hQ : jyQ D S m) {x1 x2 x3 : Int32} : ∃ m', c_X10_copies F m 101 x1 x2 x3 = some ((jcops D x1 x2 x3).1, m') ∧ jfx (fun a _ => a = 109) m m' ∧ jyQ (jcops D x1 x2 x3).2 S m' ∧ jDS (jcops D x1 x2 x3).2 S := by
  have hD := hDS.1
  have hL := hQ.1.1
  unfold c_X10_copies jcops
  rw [jgd_t hL.1, y_isRow hL hQ.1.2.1 hD, jb_some]
  cases e1 : jrow D x1 x2 with
  | false => exact ⟨m, rfl, jfx.rfl, hQ, hDS⟩
  | true =>
    obtain ⟨r, k, rfl, rfl, hr, hk, hr2, hk2⟩ := jrow_nat e1
    have hr4 : r < 4 := Nat.lt_of_lt_of_le hr hD.1
    have hz := (hD.2.2.1 r hr4).2.2.1
    rw [if_neg (show ¬ jbi true = 0 by decide), show c_X10_in F m (Int32.toInt64 x3) (1 : Int64) (2000000000 : Int64) = some (jbi (jbt2 x3 1 2000000000)) from q_in_int (lo := 1) (hi := 2000000000) (by omega) (by omega), jb_some, ji_n hr2, ji_n hk2, Bool.true_and]
    cases e2 : jbt2 x3 1 2000000000 with
    | false => exact ⟨m, rfl, jfx.rfl, hQ, hDS⟩
    | true =>
      obtain ⟨v, rfl, hv, hv1, hv2⟩ := jbt2_nat e2
      have hfx : jfx (fun a _ => a = 109) m (jsI m 109 (8 * r + k) (Int32.ofNat v)) := jfx_I rfl
      rw [if_neg (show ¬ jbi true = 0 by decide), if_pos rfl, ji_n hv, jp_109 hL, jgd_t (jk_109 hL), jz_109 hL, show (8 : Int32) = Int32.ofNat 8 from rfl, ji_mul, ji_add, jgd_t (ji_int (by omega) (by omega)), jgd_t (ji_int (by omega) (by omega)), ji_n (by omega), ((hQ.1.2.1.2.2.2 r hr4).2.2.2 k hk).2.1]
      exact ⟨_, rfl, hfx, jyQ_101 hQ (jRf_c hD hr4 hk hQ.1) (hfx.I (by omega)) (hfx.I (by omega)) (hfx.I (by omega)), jDok_c hD ⟨hv1, hv2⟩, hDS.2⟩
theorem jRf_q {m : jMe} {q : Nat} (h : jRf D S m) : jRf (jUq D q) S (jsI m 101 14 (Int32.ofNat q)) := by
  have hfx : jfx (fun a i => a = 101 ∧ i = 14) m (jsI m 101 14 (Int32.ofNat q)) := jfx_I ⟨rfl, rfl⟩
  obtain ⟨h1, ⟨c1, c2, c3, c4⟩, h3, h4⟩ := h
  refine ⟨jLM_fx hfx h1, ⟨?_, ?_, jsI_y, fun x hx => ?_⟩, ?_, ?_⟩
  · rw [hfx.I (by omega)]; exact c1
  · rw [hfx.I (by omega)]; exact c2
  · obtain ⟨d1, d2, d3, d4⟩ := c4 x hx
    refine ⟨by rw [hfx.I (by omega)]; exact d1, by rw [hfx.I (by omega)]; exact d2, by rw [hfx.I (by omega)]; exact d3, fun y hy => ?_⟩
    obtain ⟨e1, e2, e3⟩ := d4 y hy
    exact ⟨fun a ha => by rw [hfx.I (by omega)]; exact e1 a ha, by rw [hfx.I (by omega)]; exact e2, by rw [hfx.I (by omega)]; exact e3⟩
  · obtain ⟨g1, g2, x, y, g3, g4, g5, g6⟩ := h3
    exact ⟨by rw [hfx.I (by omega)]; exact g1, fun t ht => ⟨by rw [hfx.I (by omega)]; exact (g2 t ht).1, fun i hi => by rw [hfx.I (by omega)]; exact (g2 t ht).2 i hi⟩, x, y, g3, g4, by rw [hfx.I (by omega)]; exact g5, by rw [hfx.I (by omega)]; exact g6⟩
  · intro p hp
    have h4p := h4 p hp
    rw [hfx.L (by omega), hfx.I (by omega)]
    exact h4p
theorem jRf_t {m : jMe} {q : Nat} (h : jRf D S m) : jRf (jUr D q) S (jsI m 101 4 (Int32.ofNat q)) := by
  have hfx : jfx (fun a i => a = 101 ∧ i = 4) m (jsI m 101 4 (Int32.ofNat q)) := jfx_I ⟨rfl, rfl⟩
  obtain ⟨h1, ⟨c1, c2, c3, c4⟩, h3, h4⟩ := h
  refine ⟨jLM_fx hfx h1, ⟨?_, jsI_y, ?_, fun x hx => ?_⟩, ?_, ?_⟩
  · rw [hfx.I (by omega)]; exact c1
  · rw [hfx.I (by omega)]; exact c3
  · obtain ⟨d1, d2, d3, d4⟩ := c4 x hx
    refine ⟨by rw [hfx.I (by omega)]; exact d1, by rw [hfx.I (by omega)]; exact d2, by rw [hfx.I (by omega)]; exact d3, fun y hy => ?_⟩
    obtain ⟨e1, e2, e3⟩ := d4 y hy
    exact ⟨fun a ha => by rw [hfx.I (by omega)]; exact e1 a ha, by rw [hfx.I (by omega)]; exact e2, by rw [hfx.I (by omega)]; exact e3⟩
  · obtain ⟨g1, g2, x, y, g3, g4, g5, g6⟩ := h3
    exact ⟨by rw [hfx.I (by omega)]; exact g1, fun t ht => ⟨by rw [hfx.I (by omega)]; exact (g2 t ht).1, fun i hi => by rw [hfx.I (by omega)]; exact (g2 t ht).2 i hi⟩, x, y, g3, g4, by rw [hfx.I (by omega)]; exact g5, by rw [hfx.I (by omega)]; exact g6⟩
  · intro p hp
    have h4p := h4 p hp
    rw [hfx.L (by omega), hfx.I (by omega)]
    exact h4p
def jqry (D : jD) (x1 : Int32) : Int32 × jD := if jin x1 (2 ^ jDn D) = true then (Int32.ofNat (jpop 8 x1.toNatClampNeg), jUq D x1.toNatClampNeg) else (-2, D)
theorem y_query (hF : 100 < F) (hDS : jDS D S) {m : jMe} (hQ : jyQ D S m) {x1 : Int32} : ∃ m', c_X10_query F m 101 x1 = some ((jqry D x1).1, m') ∧ jfx (fun a i => a = 101 ∧ i = 14) m m' ∧ jyQ (jqry D x1).2 S m' ∧ jDS (jqry D x1).2 S := by
  have hD := hDS.1
  have hL := hQ.1.1
  have hn := hD.1
  have h16 : 2 ^ jDn D ≤ 2 ^ 4 := Nat.pow_le_pow_right (by omega) hn
  unfold c_X10_query jqry
  rw [jgd_t hL.1, hQ.1.2.1.1, jshl_1 (by omega), q_in_jin (by omega), jb_some]
  cases e1 : jin x1 (2 ^ jDn D) with
  | false => exact ⟨m, rfl, jfx.rfl, hQ, hDS⟩
  | true =>
    obtain ⟨q, rfl, hq1, hq2⟩ := jin_nat e1
    have hfx : jfx (fun a i => a = 101 ∧ i = 14) m (jsI m 101 14 (Int32.ofNat q)) := jfx_I ⟨rfl, rfl⟩
    rw [if_neg (show ¬ jbi true = 0 by decide), if_pos rfl, ji_n hq1, q_bitsOf hF (by omega), jb_some]
    obtain ⟨h1, h2, h3, h4, h5⟩ := hD
    exact ⟨_, rfl, hfx, jyQ_101 hQ (jRf_q hQ.1) (hfx.I (by omega)) (hfx.I (by omega)) (hfx.I (by omega)), ⟨h1, hq2, h3, h4, h5⟩, hDS.2⟩
def jfrc (D : jD) (S : jTS) (x1 : Int32) : Int32 × jD := if jin x1 S.1 = true then (Int32.ofNat (jDr D), jUr D x1.toNatClampNeg) else (-2, D)
theorem y_force (hDS : jDS D S) {m : jMe} (hQ : jyQ D S m) {x1 : Int32} : ∃ m', c_X10_force F m 101 x1 = some ((jfrc D S x1).1, m') ∧ jfx (fun a i => a = 101 ∧ i = 4) m m' ∧ jyQ (jfrc D S x1).2 S m' ∧ jDS (jfrc D S x1).2 S := by
  have hL := hQ.1.1
  have hS := hDS.2.1.2.1
  unfold c_X10_force jfrc
  rw [jgd_t hL.1, hQ.1.2.2.1.1, q_in_jin (by omega), jb_some]
  cases e1 : jin x1 S.1 with
  | false => exact ⟨m, rfl, jfx.rfl, hQ, hDS⟩
  | true =>
    obtain ⟨q, rfl, hq1, hq2⟩ := jin_nat e1
    have hfx : jfx (fun a i => a = 101 ∧ i = 4) m (jsI m 101 4 (Int32.ofNat q)) := jfx_I ⟨rfl, rfl⟩
    rw [if_neg (show ¬ jbi true = 0 by decide), if_pos rfl, ji_n hq1, hQ.1.2.1.2.1]
    exact ⟨_, rfl, hfx, jyQ_101 hQ (jRf_t hQ.1) (hfx.I (by omega)) (hfx.I (by omega)) (hfx.I (by omega)), hDS.1, hDS.2.1, hq2, hDS.2.2.2⟩
end YSET
