/-! rows taken away, brought back; copies; the query; the rule: as the reference does it -/
section YWOUT
variable {F : Nat} {D : jD} {S : jTS}
def jUl (D : jD) (r s : Nat) : jD := (D.1, D.2.1, D.2.2.1, D.2.2.2.1, (fun x => if x = r then s else jDl D x), D.2.2.2.2.2)
def jUc (D : jD) (r k v : Nat) : jD := (D.1, D.2.1, D.2.2.1, D.2.2.2.1, D.2.2.2.2.1, D.2.2.2.2.2.1, (fun x y => if x = r ∧ y = k then v else jDc D x y), D.2.2.2.2.2.2.2)
def jUq (D : jD) (q : Nat) : jD := ((D.1.1, D.1.2.1, q), D.2)
def jUr (D : jD) (t : Nat) : jD := ((D.1.1, t, D.1.2.2), D.2)
theorem jUl_l (r s x : Nat) : jDl (jUl D r s) x = if x = r then s else jDl D x := rfl
def jli (l k : Nat) (b : Bool) : Nat := if b = true then l ||| 2 ^ k else jclr l k
theorem jli_bit {l k i : Nat} {b : Bool} (hl : l < 256) (hi : i < 8) : (jli l k b).testBit i = if i = k then b else l.testBit i := by
  unfold jli
  cases b with
  | true =>
    rw [if_pos rfl, Nat.testBit_or, Nat.testBit_two_pow]
    by_cases e : i = k
    · rw [if_pos e, decide_eq_true e.symm, Bool.or_true]
    · rw [if_neg e, decide_eq_false (fun h => e h.symm), Bool.or_false]
  | false =>
    have h255 : Nat.testBit 255 i = true := by
      have : ∀ i : Fin 8, Nat.testBit 255 i.1 = true := by decide
      exact this ⟨i, hi⟩
    unfold jclr
    rw [if_neg (by decide), Nat.testBit_and, Nat.testBit_xor, Nat.testBit_two_pow, h255]
    by_cases e : i = k
    · rw [if_pos e, decide_eq_true e.symm]
      simp
    · rw [if_neg e, decide_eq_false (fun h => e h.symm)]
      simp
theorem jli_lt {l k z : Nat} {b : Bool} (hl : l < 2 ^ z) (hk : k < z) : jli l k b < 2 ^ z := by
  unfold jli
  cases b with
  | true => exact Nat.or_lt_two_pow hl (Nat.pow_lt_pow_right (by omega) hk)
  | false => exact Nat.lt_of_le_of_lt Nat.and_le_left hl
theorem jz256 {l z : Nat} (hl : l < 2 ^ z) (hz : z ≤ 8) : l < 256 := Nat.lt_of_lt_of_le hl (Nat.pow_le_pow_right (n := 2) (by omega) hz)
theorem jli_same {l k z : Nat} {b b' : Bool} (hl : l < 2 ^ z) (hz : z ≤ 8) (hk : k < z) (h : l.testBit k = b) : jli (jli l k b') k b = l := by
  have h1 := jli_lt (b := b') hl hk
  have h2 := jli_lt (b := b) h1 hk
  have hl8 := jz256 hl hz
  have h18 := jz256 h1 hz
  refine Nat.eq_of_testBit_eq (fun i => ?_)
  by_cases hi : i < 8
  · rw [jli_bit h18 hi, jli_bit hl8 hi]
    by_cases e : i = k
    · rw [if_pos e, e, h]
    · rw [if_neg e, if_neg e]
  · have : 2 ^ z ≤ 2 ^ i := Nat.pow_le_pow_right (by omega) (by omega)
    rw [Nat.testBit_lt_two_pow (by omega), Nat.testBit_lt_two_pow (by omega)]
theorem jUl_id (r s : Nat) : jUl (jUl D r s) r (jDl D r) = D := by
  have : (fun x => if x = r then jDl D r else jDl (jUl D r s) x) = jDl D := by
    funext x
    by_cases e : x = r
    · rw [if_pos e, e]
    · rw [if_neg e, jUl_l, if_neg e]
  unfold jUl at this ⊢
  rw [this]
  rfl
theorem jDok_l {r s : Nat} (hD : jDok D) (hr : r < 4) (hs : s < 2 ^ jDz D r) (h0 : jDn D ≤ r → s = 0) : jDok (jUl D r s) := by
  obtain ⟨h1, h2, h3, h4, h5⟩ := hD
  refine ⟨h1, h2, fun x hx => ?_, h4, fun x hx => ?_⟩
  · obtain ⟨a1, a2, a3, a4, a5⟩ := h3 x hx
    refine ⟨a1, a2, a3, ?_, a5⟩
    rw [jUl_l]
    by_cases e : x = r
    · rw [if_pos e, e]
      exact hs
    · rw [if_neg e]
      exact a4
  · refine ⟨(h5 x hx).1, ?_⟩
    rw [jUl_l]
    by_cases e : x = r
    · rw [if_pos e]
      exact h0 (by rw [← e]; exact hx)
    · rw [if_neg e]
      exact (h5 x hx).2
theorem jRf_l {m : jMe} (hD : jDok D) {r k : Nat} (hr : r < 4) (hk : k < jDz D r) {b : Bool} (h : jRf D S m) : jRf (jUl D r (jli (jDl D r) k b)) S (jsI m 110 (8 * r + k) (jbi b)) := by
  have hfx : jfx (fun a i => a = 110 ∧ i = 8 * r + k) m (jsI m 110 (8 * r + k) (jbi b)) := jfx_I ⟨rfl, rfl⟩
  have hz := (hD.2.2.1 r hr).2.2.1
  have hl8 := jz256 (hD.2.2.1 r hr).2.2.2.1 hz
  obtain ⟨h1, ⟨c1, c2, c3, c4⟩, h3, h4⟩ := h
  refine ⟨jLM_fx hfx h1, ⟨?_, ?_, ?_, fun x hx => ?_⟩, ?_, ?_⟩
  · rw [hfx.I (by omega)]; exact c1
  · rw [hfx.I (by omega)]; exact c2
  · rw [hfx.I (by omega)]; exact c3
  · obtain ⟨d1, d2, d3, d4⟩ := c4 x hx
    have hzx := (hD.2.2.1 x hx).2.2.1
    refine ⟨by rw [hfx.I (by omega)]; exact d1, by rw [hfx.I (by omega)]; exact d2, by rw [hfx.I (by omega)]; exact d3, fun y hy => ?_⟩
    have hy : y < jDz D x := hy
    obtain ⟨e1, e2, e3⟩ := d4 y hy
    refine ⟨fun a ha => by rw [hfx.I (by omega)]; exact e1 a ha, by rw [hfx.I (by omega)]; exact e2, ?_⟩
    rw [jsI_g, jUl_l]
    by_cases ex : x = r
    · subst ex
      rw [if_pos rfl, jli_bit hl8 (by omega)]
      by_cases ey : y = k
      · rw [if_pos ⟨rfl, by rw [ey]⟩, if_pos ey]
      · rw [if_neg (by omega), if_neg ey]
        exact e3
    · rw [if_neg ex, if_neg (by omega)]
      exact e3
  · obtain ⟨g1, g2, x, y, g3, g4, g5, g6⟩ := h3
    exact ⟨by rw [hfx.I (by omega)]; exact g1, fun t ht => ⟨by rw [hfx.I (by omega)]; exact (g2 t ht).1, fun i hi => by rw [hfx.I (by omega)]; exact (g2 t ht).2 i hi⟩, x, y, g3, g4, by rw [hfx.I (by omega)]; exact g5, by rw [hfx.I (by omega)]; exact g6⟩
  · intro p hp
    have h4p := h4 p hp
    rw [hfx.L (by omega), hfx.I (by omega)]
    exact h4p
theorem jDS_l {r s : Nat} (h : jDS D S) (hr : r < 4) (hs : s < 2 ^ jDz D r) (h0 : jDn D ≤ r → s = 0) : jDS (jUl D r s) S := ⟨jDok_l h.1 hr hs h0, h.2⟩
theorem jyQ_l {m : jMe} (hD : jDok D) {r k : Nat} (hr : r < 4) (hk : k < jDz D r) {b : Bool} (h : jyQ D S m) : jyQ (jUl D r (jli (jDl D r) k b)) S (jsI m 110 (8 * r + k) (jbi b)) := by
  have hfx : jfx (fun a i => a = 110 ∧ i = 8 * r + k) m (jsI m 110 (8 * r + k) (jbi b)) := jfx_I ⟨rfl, rfl⟩
  obtain ⟨h1, ⟨x, h2, h3⟩, h4, h5⟩ := h
  exact ⟨jRf_l hD hr hk h1, ⟨x, h2, by rw [hfx.I (by omega)]; exact h3⟩, by rw [hfx.I (by omega)]; exact h4, by rw [hfx.I (by omega)]; exact h5⟩
/-- what calls that try rows may change -/
def jyP (a i : Nat) : Prop := jyO a i ∨ a = 110
theorem y_countWithout (hF : 5000 < F) (hDS : jDS D S) (hq0 : jDq D ≠ 0) {r k : Nat} (hr : r < 4) (hk : k < jDz D r) (hl : (jDl D r).testBit k = true) {g : Bool} (hg : g = true ↔ jGt (jUl D r (jli (jDl D r) k false))) {m : jMe} (hQ : jyQ D S m) : ∃ m', c_X10_countWithout F m 101 (Int32.ofNat r) (Int32.ofNat k) = some (if g = false then Int64.ofNat (jct (jUl D r (jli (jDl D r) k false)) jf1) else -4611686018427387904, m') ∧ jfx jyP m m' ∧ jyQ D S m' := by
  have hD := hDS.1
  have hL := hQ.1.1
  have hDr := hD.2.2.1 r hr
  have hz := hDr.2.2.1
  have hn : ¬ jDn D ≤ r := fun h => by have := (hD.2.2.2.2 r h).1; omega
  have hDS1 : jDS (jUl D r (jli (jDl D r) k false)) S := jDS_l hDS hr (jli_lt hDr.2.2.2.1 hk) (fun h => absurd h hn)
  have hQ1 := jyQ_l (b := false) hD hr hk hQ
  have fx1 : jfx jyP m (jsI m 110 (8 * r + k) (jbi false)) := jfx_I (Or.inr rfl)
  have hback : ∀ m2, jyQ (jUl D r (jli (jDl D r) k false)) S m2 → jyQ D S (jsI m2 110 (8 * r + k) (jbi true)) := fun m2 h => by
    have := jyQ_l (b := true) hDS1.1 hr (show k < jDz (jUl D r (jli (jDl D r) k false)) r from hk) h
    rw [jUl_l, if_pos rfl, jli_same hDr.2.2.2.1 hz hk hl, jUl_id] at this
    exact this
  unfold c_X10_countWithout c_X10_countWithout_j29
  rw [jgd_t hL.1, jp_110 hL, jgd_t (jk_110 hL), jz_110 hL, show (8 : Int32) = Int32.ofNat 8 from rfl, ji_mul, ji_add, jgd_t (ji_int (by omega) (by omega)), ji_n (by omega), jvn_0, jvn_1]
  have e0 : jsI m 110 (8 * r + k) (0 : Int32) = jsI m 110 (8 * r + k) (jbi false) := rfl
  rw [e0]
  generalize jsI m 110 (8 * r + k) (jbi false) = m1 at hQ1 fx1 ⊢
  rcases y_told (F := F) (by omega) hDS1 hg hQ1 with ⟨ht, m2, a1, a2, a3, a4⟩ | ⟨ht, m2, a1, a2, a3, a4⟩
  · have hL2 := a4.1.1
    rw [a1, jb_some, if_pos ht.2]
    dsimp only
    rw [if_neg (show ¬ (1 : Int32) = 0 by decide), jgd_t hL2.1]
    obtain ⟨m3, b1, b2, b3⟩ := y_countNow1 (F := F) hF hDS1 hq0 a4
    have hL3 := b3.1.1
    rw [b1, jb_some]
    dsimp only
    rw [jgd_t hL3.1, jp_110 hL3, jgd_t (jk_110 hL3), jz_110 hL3, jgd_t (ji_int (by omega) (by omega))]
    refine ⟨_, rfl, ((fx1.trans (a2.weak (fun a i h => Or.inl h))).trans (b2.weak (fun a i h => Or.inl h))).trans (jfx_I (Or.inr rfl)), hback m3 b3⟩
  · have hL2 := a4.1.1
    have hgt : g = true := by
      cases g with
      | true => rfl
      | false => exact absurd ⟨hq0, rfl⟩ ht
    rw [a1, jb_some, hgt, if_neg (show ¬ true = false by decide)]
    dsimp only
    rw [if_pos (show (0 : Int32) = 0 from rfl), jgd_t hL2.1, jp_110 hL2, jgd_t (jk_110 hL2), jz_110 hL2, jgd_t (ji_int (by omega) (by omega))]
    exact ⟨_, rfl, (fx1.trans (a2.weak (fun a i h => Or.inl h))).trans (jfx_I (Or.inr rfl)), hback m2 a4⟩
end YWOUT
