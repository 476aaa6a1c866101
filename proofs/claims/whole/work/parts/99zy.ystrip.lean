/-! rows removed in trials, as the reference does it -/
section YSTRIP
variable {F : Nat} {D : jD} {S : jTS}
theorem y_itemLive {α : Type} {m : jMe} (hQ : jyQ D S m) (hD : jDok D) {v : Int64} {K : Int32 → Option α} : (jb (c_X10_in F m v (0 : Int64) (31 : Int64)) fun t21 => (if t21 = 0 then K 0 else jb (c_X10_isRow F m 101 ((Int64.toInt32 v) / (8 : Int32)) (jrem (Int64.toInt32 v) (8 : Int32))) fun t35 => (if t35 = 0 then K 0 else jgd (jK m (jP m 101 13) = 4) <| jgd (jin (Int64.toInt32 v) (jZ m (jP m 101 13)) = true) <| (if (jI m (jP m 101 13) (Int64.toInt32 v).toNatClampNeg) = 0 then K 0 else K 1)))) = K (jbi (jlvi D v)) := by
  have hL := hQ.1.1
  have hn := hD.1
  unfold jlvi
  rw [q_in, jb_some]
  by_cases h0 : 0 ≤ v
  · by_cases h1 : v < 32
    · obtain ⟨-, h32, e3, e4, e5⟩ := jit_e h0 h1
      have h31 : v ≤ 31 := by
        rw [(jit_e h0 h1).1]
        exact (jq_le (b := 31) (by unfold jMX; omega) (by unfold jMX; omega)).mpr (by omega)
      rw [decide_eq_true h0, decide_eq_true h31, decide_eq_true ⟨h0, h1⟩, Bool.true_and, Bool.true_and, if_neg (show ¬ jbi true = 0 by decide), e3, e4, e5, y_isRow hL hQ.1.2.1 hD, jb_some]
      unfold jrow
      rw [ji_in (by omega), ji_n (by omega), ji_in (by omega)]
      by_cases e : jit v / 8 < jDn D
      · have hr4 : jit v / 8 < 4 := by omega
        rw [decide_eq_true e, Bool.true_and, Bool.true_and]
        by_cases ek : jit v % 8 < jDz D (jit v / 8)
        · have e1 : jI m 110 (8 * (jit v / 8) + jit v % 8) = jbi ((jDl D (jit v / 8)).testBit (jit v % 8)) := ((hQ.1.2.1.2.2.2 _ hr4).2.2.2 _ ek).2.2
          rw [show 8 * (jit v / 8) + jit v % 8 = jit v by omega] at e1
          rw [decide_eq_true ek, if_neg (show ¬ jbi true = 0 by decide), jp_110 hL, jgd_t (jk_110 hL), jz_110 hL, jgd_t (ji_int (by omega) h32), ji_n (by omega), e1]
          cases (jDl D (jit v / 8)).testBit (jit v % 8) <;> rfl
        · rw [decide_eq_false ek, jl_bits (hD.2.2.1 _ hr4) (Nat.le_of_not_lt ek), if_pos (show jbi false = 0 from rfl)]
          rfl
      · rw [decide_eq_false e, Bool.false_and, Bool.false_and, if_pos (show jbi false = 0 from rfl)]
        rfl
    · have h31 : ¬ v ≤ 31 := fun q => h1 (Int64.lt_of_le_of_lt q (by decide))
      rw [decide_eq_true h0, decide_eq_false h31, decide_eq_false (fun q => h1 q.2)]
      rfl
  · rw [decide_eq_false h0, decide_eq_false (show ¬ (0 ≤ v ∧ v < 32) from fun q => h0 q.1)]
    rfl
/-- what strip may change -/
def jyPs (a i : Nat) : Prop := jyP a i ∨ a = 121 ∨ (a = 101 ∧ i = 49)
theorem jtr_S {L : Nat → Int64} (o : Nat) (h : jDS D S) (hv : ∀ j, j < o → jlvi (jtr L D j) (L j) = true) : jDS (jtr L D o) S := by
  induction o with
  | zero => exact h
  | succ o ih =>
    have h0 := ih (fun j hj => hv j (by omega))
    obtain ⟨-, v2, v3, v4, v5⟩ := jlvi_d h0.1 (hv o (by omega))
    exact jDS_l h0 v3 (jli_lt (h0.1.2.2.1 _ v3).2.2.2.1 v5) (fun q => absurd v2 (by omega))
theorem jtr_q {L : Nat → Int64} (o : Nat) : jDq (jtr L D o) = jDq D := by
  induction o with
  | zero => rfl
  | succ o ih => exact ih
theorem y_strip_stop {m : jMe} {D' : jD} (h : jyQ D' S m) {s : Nat} (hs : s < 4) {x : Int64} {y4 y5 : Int32} (hy : ¬ y5 = 0) {f : Nat} (hf : 0 < f) : c_X10_strip_l63 F f m 101 (Int32.ofNat s) x y4 y5 = some (m, 101, Int32.ofNat s, y4, y5) := by
  have hL := h.1.1
  obtain ⟨f, rfl⟩ := jsucc hf
  show c_X10_strip_l63_b F _ m _ _ _ _ _ = _
  unfold c_X10_strip_l63_b
  rw [jgd_t hL.1, jp_127 hL, jgd_t (jk_127 hL), jz_127 hL, jgd_t (ji_int (by omega) hs), if_neg hy, ite_self]
theorem y_strip_l63 (hF : 5000 < F) {L : Nat → Int64} {s n : Nat} (hs : s < 4) (hn : n ≤ 12) {x : Int64} : ∀ (t o f : Nat) (m : jMe), o + t = n → t + 1 < f → jDq D ≠ 0 → jDS (jtr L D o) S → jyQ (jtr L D o) S m → jI m 127 s = Int32.ofNat n → (∀ i, jL m 128 (40 * s + i) = L i) → ∃ m', c_X10_strip_l63 F f m 101 (Int32.ofNat s) x (Int32.ofNat o) (0 : Int32) = some (m', 101, Int32.ofNat s, Int32.ofNat (jstp L x D t o).1, (jstp L x D t o).2) ∧ jfx jyP m m' ∧ jyQ (jtr L D (jstp L x D t o).1) S m' := by
  intro t
  induction t with
  | zero =>
    intro o f m h1 h2 hq0 hDS hQ h2s hV
    obtain ⟨f, rfl⟩ := jsucc h2
    have hL := hQ.1.1
    refine ⟨m, ?_, jfx.rfl, hQ⟩
    show c_X10_strip_l63_b F _ m _ _ _ _ _ = _
    unfold c_X10_strip_l63_b
    rw [jgd_t hL.1, jp_127 hL, jgd_t (jk_127 hL), jz_127 hL, jgd_t (ji_int (by omega) hs), ji_n (by omega), h2s, if_pos (ji_lep (by omega) (by omega) (by omega))]
    rfl
  | succ t ih =>
    intro o f m h1 h2 hq0 hDS hQ h2s hV
    obtain ⟨f, rfl⟩ := jsucc h2
    have hL := hQ.1.1
    have hst : ∀ z, c_X10_strip_j140_l63 F (fun m y0 y1 y2 y4 y5 => c_X10_strip_l63 F f m y0 y1 y2 y4 y5) m 101 (Int32.ofNat s) x (Int32.ofNat o) (L o) (jbi (jlvi (jtr L D o) (L o))) = z → c_X10_strip_l63 F (f + 1) m 101 (Int32.ofNat s) x (Int32.ofNat o) (0 : Int32) = z := by
      intro z h
      rw [← h]
      show c_X10_strip_l63_b F _ m _ _ _ _ _ = _
      unfold c_X10_strip_l63_b
      rw [jgd_t hL.1, jp_127 hL, jgd_t (jk_127 hL), jz_127 hL, jgd_t (ji_int (by omega) hs), ji_n (show s < 2147483648 by omega), h2s, if_neg (ji_len (by omega) (by omega) (by omega)), if_pos rfl, jp_128 hL, jgd_t (jk_128 hL), jz_128 hL, show (40 : Int32) = Int32.ofNat 40 from rfl, ji_mul, ji_add, jgd_t (ji_int (by omega) (by omega)), ji_n (show 40 * s + o < 2147483648 by omega), hV]
      exact y_itemLive hQ hDS.1 (v := L o) (K := fun q => c_X10_strip_j140_l63 F (fun m y0 y1 y2 y4 y5 => c_X10_strip_l63 F f m y0 y1 y2 y4 y5) m 101 (Int32.ofNat s) x (Int32.ofNat o) (L o) q)
    rw [jstp]
    cases e : jlvi (jtr L D o) (L o) with
    | false =>
      obtain ⟨n1, n2, -, -⟩ := ji_m20 (o := o) (by omega)
      rw [if_neg (show ¬ (false = true) by decide)]
      refine ⟨m, hst _ ?_, jfx.rfl, hQ⟩
      unfold c_X10_strip_j140_l63
      dsimp only
      rw [e, if_pos (show jbi false = 0 from rfl), y_strip_stop hQ hs n2 (by omega)]
    | true =>
      obtain ⟨⟨v0, v1⟩, v2, v3, v4, v5⟩ := jlvi_d hDS.1 e
      obtain ⟨-, h32, e3, e4, e5⟩ := jit_e v0 v1
      have hDS2 : jDS (jtr L D (o + 1)) S := jDS_l hDS v3 (jli_lt (hDS.1.2.2.1 _ v3).2.2.2.1 v5) (fun q => absurd v2 (by omega))
      have hQ2 : jyQ (jtr L D (o + 1)) S _ := jyQ_l (b := false) hDS.1 v3 v5 hQ
      rw [show 8 * (jit (L o) / 8) + jit (L o) % 8 = jit (L o) by omega] at hQ2
      have hx2 : jfx jyP m (jsI m 110 (jit (L o)) (jbi false)) := jfx_I (Or.inr rfl)
      have hone : ∀ z, (jb (c_X10_isTold F (jsI m 110 (jit (L o)) (jbi false)) 101) fun t28 => (if t28.1 = 0 then c_X10_strip_l63 F f t28.2 101 (Int32.ofNat s) x (Int32.ofNat (o + 1)) (0 : Int32) else jgd (jK t28.2 101 = 42) <| jb (c_X10_countNow F t28.2 101) fun t32 => (if 0 ≤ (lg_cmp t32.1 x) then c_X10_strip_l63 F f t32.2 101 (Int32.ofNat s) x (Int32.ofNat (o + 1)) (0 : Int32) else c_X10_strip_l63 F f t32.2 101 (Int32.ofNat s) x (Int32.ofNat (o + 1)) ((100 : Int32) + Int32.ofNat (o + 1))))) = z → c_X10_strip_l63 F (f + 1) m 101 (Int32.ofNat s) x (Int32.ofNat o) (0 : Int32) = z := by
        intro z h
        apply hst
        rw [← h]
        unfold c_X10_strip_j140_l63
        dsimp only
        rw [e, if_neg (show ¬ jbi true = 0 by decide), jgd_t hL.1, jp_110 hL, jgd_t (jk_110 hL), jz_110 hL, e3, jgd_t (ji_int (by omega) h32), ji_n (show jit (L o) < 2147483648 by omega), jvn_0, show Int32.ofNat o + 1 = Int32.ofNat (o + 1) from ji_add o 1]
        rfl
      generalize jsI m 110 (jit (L o)) (jbi false) = m2 at hQ2 hx2 hone
      have hP : ∀ m3, jfx jyO m2 m3 → jI m3 127 s = Int32.ofNat n ∧ ∀ i, jL m3 128 (40 * s + i) = L i := fun m3 q => by
        have := hx2.trans (q.weak (fun a i z => Or.inl z))
        exact ⟨by rw [this.I (by unfold jyP jyO; omega)]; exact h2s, fun i => by rw [this.L (by unfold jyP jyO; omega)]; exact hV i⟩
      have hgo : ∀ m3, jfx jyO m2 m3 → jyQ (jtr L D (o + 1)) S m3 → ∃ m', c_X10_strip_l63 F f m3 101 (Int32.ofNat s) x (Int32.ofNat (o + 1)) (0 : Int32) = some (m', 101, Int32.ofNat s, Int32.ofNat (jstp L x D t (o + 1)).1, (jstp L x D t (o + 1)).2) ∧ jfx jyP m m' ∧ jyQ (jtr L D (jstp L x D t (o + 1)).1) S m' := fun m3 q1 q2 => by
        obtain ⟨m', d1, d2, d3⟩ := ih (o + 1) f m3 (by omega) (by omega) hq0 hDS2 q2 (hP m3 q1).1 (hP m3 q1).2
        exact ⟨m', d1, (hx2.trans (q1.weak (fun a i z => Or.inl z))).trans d2, d3⟩
      rw [if_pos rfl]
      have hq1 : jDq (jtr L D (o + 1)) ≠ 0 := by rw [jtr_q]; exact hq0
      rcases y_told (F := F) (by omega) hDS2 (g := jgB (jtr L D (o + 1))) jgB_iff hQ2 with ⟨ht, m3, a1, a2, a3, a4⟩ | ⟨ht, m3, a1, a2, a3, a4⟩
      · obtain ⟨m4, b1, b2, b3⟩ := y_countNow1 (F := F) hF hDS2 hq1 a4
        have hL3 := a4.1.1
        have ex : jenu (jtr L D (o + 1)) x = decide (Int64.ofNat (jct (jtr L D (o + 1)) jf1) < x) := by
          unfold jenu
          rw [ht.2]
          rfl
        rw [ex]
        by_cases ee : Int64.ofNat (jct (jtr L D (o + 1)) jf1) < x
        · obtain ⟨-, -, n3, n4⟩ := ji_m20 (o := o + 1) (by omega)
          rw [decide_eq_true ee, if_pos rfl]
          refine ⟨m4, hone _ ?_, (hx2.trans (a2.weak (fun a i z => Or.inl z))).trans (b2.weak (fun a i z => Or.inl z)), b3⟩
          rw [a1, jb_some]
          dsimp only
          rw [if_neg (show ¬ (1 : Int32) = 0 by decide), jgd_t hL3.1, b1, jb_some]
          dsimp only
          rw [if_neg (fun q => absurd (Int64.lt_of_le_of_lt (jc_0le.mp q) ee) Int64.lt_irrefl), y_strip_stop b3 hs n4 (by omega)]
        · rw [decide_eq_false ee, if_neg (show ¬ (false = true) by decide)]
          obtain ⟨m', d1, d2, d3⟩ := hgo m4 (a2.trans b2) b3
          refine ⟨m', hone _ ?_, d2, d3⟩
          rw [a1, jb_some]
          dsimp only
          rw [if_neg (show ¬ (1 : Int32) = 0 by decide), jgd_t hL3.1, b1, jb_some]
          dsimp only
          rw [if_pos (jc_0le.mpr (Int64.not_lt.mp ee))]
          exact d1
      · have hgt : jgB (jtr L D (o + 1)) = true := by
          cases hgg : jgB (jtr L D (o + 1)) with
          | true => rfl
          | false => exact absurd ⟨hq1, hgg⟩ ht
        have ex : jenu (jtr L D (o + 1)) x = false := by
          unfold jenu
          rw [hgt]
          rfl
        rw [ex, if_neg (show ¬ (false = true) by decide)]
        obtain ⟨m', d1, d2, d3⟩ := hgo m3 a2 a4
        refine ⟨m', hone _ ?_, d2, d3⟩
        rw [a1, jb_some]
        dsimp only
        rw [if_pos (show (0 : Int32) = 0 from rfl)]
        exact d1
theorem y_strip_l205 {L : Nat → Int64} {s : Nat} (hs : s < 4) (hDS : jDS D S) {o' : Nat} {y5 : Int32} (ho : o' ≤ 12) (hlv : ∀ j, j < o' → jlvi (jtr L D j) (L j) = true) : ∀ (t c f : Nat) (m : jMe), c + t = o' → t < f → jyQ (jtr L D t) S m → jI m 101 49 = Int32.ofNat c → (∀ j, j < o' → jL m 128 (40 * s + j) = L j) → (∀ j, j < c → jI m 121 j = Int64.toInt32 (L (o' - 1 - j))) → ∃ m', c_X10_strip_l205 F f m 101 (Int32.ofNat s) (Int32.ofNat o') y5 (Int32.ofNat t - 1) = some (m', Int32.ofNat o', y5) ∧ jfx jyPs m m' ∧ jyQ D S m' ∧ jySl (o', fun j => Int64.toInt32 (L (o' - 1 - j))) m' := by
  intro t
  induction t with
  | zero =>
    intro c f m h1 h2 hQ hc hV hsl
    obtain ⟨f, rfl⟩ := jsucc h2
    refine ⟨m, ?_, jfx.rfl, hQ, ho, by rw [hc, show c = o' by omega], fun j hj => hsl j (by have : j < o' := hj; omega)⟩
    show c_X10_strip_l205_b F _ m _ _ _ _ _ = _
    unfold c_X10_strip_l205_b
    rw [if_pos jdown0]
  | succ t ih =>
    intro c f m h1 h2 hQ hc hV hsl
    obtain ⟨f, rfl⟩ := jsucc h2
    have hL := hQ.1.1
    have hDt : jDS (jtr L D t) S := jtr_S t hDS (fun j hj => hlv j (by omega))
    have hDt1 : jDS (jtr L D (t + 1)) S := jtr_S (t + 1) hDS (fun j hj => hlv j (by omega))
    obtain ⟨⟨v0, v1⟩, v2, v3, v4, v5⟩ := jlvi_d hDt.1 (hlv t (by omega))
    obtain ⟨-, h32, e3, e4, e5⟩ := jit_e v0 v1
    have hx1 : jfx (fun a i => a = 121 ∧ i = c) m (jsI m 121 c (Int64.toInt32 (L t))) := jfx_I ⟨rfl, rfl⟩
    have hQ1 : jyQ (jtr L D (t + 1)) S (jsI m 121 c (Int64.toInt32 (L t))) := jyQ_fx hx1 (by omega) (jRf_fx hx1 (fun a i q => by unfold jSr at q; omega) hQ.1) hQ
    have h49 : jI (jsI m 121 c (Int64.toInt32 (L t))) 101 49 = Int32.ofNat c := by rw [jsI_no (by omega)]; exact hc
    have h121 : jI (jsI m 121 c (Int64.toInt32 (L t))) 121 c = Int32.ofNat (jit (L t)) := by rw [jsI_y]; exact e3
    have hold : ∀ j, j < c + 1 → jI (jsI m 121 c (Int64.toInt32 (L t))) 121 j = Int64.toInt32 (L (o' - 1 - j)) := fun j hj => by
      rw [jsI_g]
      by_cases q : j = c
      · rw [if_pos ⟨rfl, q⟩, q, show o' - 1 - c = t by omega]
      · rw [if_neg (fun z => q z.2)]
        exact hsl j (by omega)
    have hst : ∀ z, (jgd (jK (jsI m 121 c (Int64.toInt32 (L t))) (jP (jsI m 121 c (Int64.toInt32 (L t))) 101 48) = 1) <| jgd (jin (jI (jsI m 121 c (Int64.toInt32 (L t))) 101 49) (jZ m (jP (jsI m 121 c (Int64.toInt32 (L t))) 101 48)) = true) <| jgd (jK (jsI m 121 c (Int64.toInt32 (L t))) (jP (jsI m 121 c (Int64.toInt32 (L t))) 101 13) = 4) <| jgd (jin (jI (jsI m 121 c (Int64.toInt32 (L t))) (jP (jsI m 121 c (Int64.toInt32 (L t))) 101 48) (jI (jsI m 121 c (Int64.toInt32 (L t))) 101 49).toNatClampNeg) (jZ m (jP (jsI m 121 c (Int64.toInt32 (L t))) 101 13)) = true) <| jlet (jsI (jsI (jsI m 121 c (Int64.toInt32 (L t))) (jP (jsI m 121 c (Int64.toInt32 (L t))) 101 13) (jI (jsI m 121 c (Int64.toInt32 (L t))) (jP (jsI m 121 c (Int64.toInt32 (L t))) 101 48) (jI (jsI m 121 c (Int64.toInt32 (L t))) 101 49).toNatClampNeg).toNatClampNeg (vp_nar .boolean (1 : Int32))) 101 49 ((jI (jsI (jsI m 121 c (Int64.toInt32 (L t))) (jP (jsI m 121 c (Int64.toInt32 (L t))) 101 13) (jI (jsI m 121 c (Int64.toInt32 (L t))) (jP (jsI m 121 c (Int64.toInt32 (L t))) 101 48) (jI (jsI m 121 c (Int64.toInt32 (L t))) 101 49).toNatClampNeg).toNatClampNeg (vp_nar .boolean (1 : Int32))) 101 49) + (1 : Int32))) fun m53 => c_X10_strip_l205 F f m53 101 (Int32.ofNat s) (Int32.ofNat o') y5 (Int32.ofNat t + (-1 : Int32))) = z → c_X10_strip_l205 F (f + 1) m 101 (Int32.ofNat s) (Int32.ofNat o') y5 (Int32.ofNat (t + 1) - 1) = z := by
      intro z h
      rw [← h]
      show c_X10_strip_l205_b F _ m _ _ _ _ _ = _
      unfold c_X10_strip_l205_b
      rw [jdown_s, if_neg (ji_ge0 (by omega)), jgd_t hL.1, jp_128 hL, jgd_t (jk_128 hL), jz_128 hL, show (40 : Int32) = Int32.ofNat 40 from rfl, ji_mul, ji_add, jgd_t (ji_int (by omega) (by omega)), jp_121 hL, jgd_t (jk_121 hL), jz_121 hL, hc, jgd_t (ji_int (by omega) (by omega)), ji_n (show c < 2147483648 by omega), ji_n (show 40 * s + t < 2147483648 by omega), hV t (by omega)]
      rfl
    have hL1 := hQ1.1.1
    have hZ1 : jZ m = jZ (jsI m 121 c (Int64.toInt32 (L t))) := rfl
    have hx3 := hx1
    rw [hZ1] at hst
    generalize jsI m 121 c (Int64.toInt32 (L t)) = m1 at hst hQ1 h49 h121 hold hL1 hx3
    have hQ2 := jyQ_l (b := true) hDt1.1 v3 v5 hQ1
    rw [show jUl (jtr L D (t + 1)) (jit (L t) / 8) (jli (jDl (jtr L D (t + 1)) (jit (L t) / 8)) (jit (L t) % 8) true) = jtr L D t from jwD_back (hDt.1.2.2.1 _ v3) v5 v4, show 8 * (jit (L t) / 8) + jit (L t) % 8 = jit (L t) by omega] at hQ2
    have hx4 : jfx jyPs m1 (jsI m1 110 (jit (L t)) (jbi true)) := jfx_I (Or.inl (Or.inr rfl))
    have h49b : jI (jsI m1 110 (jit (L t)) (jbi true)) 101 49 = Int32.ofNat c := by rw [jsI_no (by omega)]; exact h49
    have hold2 : ∀ j, j < c + 1 → jI (jsI m1 110 (jit (L t)) (jbi true)) 121 j = Int64.toInt32 (L (o' - 1 - j)) := fun j hj => by rw [jsI_no (by omega)]; exact hold j hj
    have hst2 : ∀ z, c_X10_strip_l205 F f (jsI (jsI m1 110 (jit (L t)) (jbi true)) 101 49 (Int32.ofNat (c + 1))) 101 (Int32.ofNat s) (Int32.ofNat o') y5 (Int32.ofNat t - 1) = z → c_X10_strip_l205 F (f + 1) m 101 (Int32.ofNat s) (Int32.ofNat o') y5 (Int32.ofNat (t + 1) - 1) = z := by
      intro z h
      apply hst
      rw [← h, jp_121 hL1, jgd_t (jk_121 hL1), jz_121 hL1, h49, jgd_t (ji_int (by omega) (by omega)), jp_110 hL1, jgd_t (jk_110 hL1), jz_110 hL1, ji_n (show c < 2147483648 by omega), h121, jgd_t (ji_int (by omega) h32), ji_n (show jit (L t) < 2147483648 by omega), jvn_1, jdown]
      show c_X10_strip_l205 F f (jsI (jsI m1 110 (jit (L t)) (jbi true)) 101 49 (jI (jsI m1 110 (jit (L t)) (jbi true)) 101 49 + 1)) _ _ _ _ _ = _
      rw [h49b, show Int32.ofNat c + 1 = Int32.ofNat (c + 1) from ji_add c 1]
    generalize jsI m1 110 (jit (L t)) (jbi true) = m2 at hst2 hQ2 hx4 hold2
    have hx5 : jfx (fun a i => a = 101 ∧ i = 49) m2 (jsI m2 101 49 (Int32.ofNat (c + 1))) := jfx_I ⟨rfl, rfl⟩
    have hQ3 : jyQ (jtr L D t) S (jsI m2 101 49 (Int32.ofNat (c + 1))) := jyQ_fx hx5 (by omega) (jRf_fx hx5 (fun a i q => by unfold jSr at q; omega) hQ2.1) hQ2
    have hx : jfx jyPs m (jsI m2 101 49 (Int32.ofNat (c + 1))) := ((hx3.weak (fun a i q => Or.inr (Or.inl q.1))).trans hx4).trans (hx5.weak (fun a i q => Or.inr (Or.inr q)))
    obtain ⟨m', d1, d2, d3, d4⟩ := ih (c + 1) f _ (by omega) (by omega) hQ3 jsI_y (fun j hj => by rw [hx.L (by unfold jyPs jyP jyO; omega)]; exact hV j hj) (fun j hj => by rw [hx5.I (by omega)]; exact hold2 j hj)
    exact ⟨m', hst2 _ d1, hx.trans d2, d3, d4⟩
theorem y_strip (hF : 5000 < F) (hDS : jDS D S) {m : jMe} (hQ : jyQ D S m) {H : jHt} {L0 : Nat × (Nat → Int32)} (hH : jyHm H m) (hS : jySl L0 m) {x1 : Int32} {x2 : Int64} : ∃ m', c_X10_strip F m 101 x1 x2 = some ((jstr D H L0 x1 x2).1, m') ∧ jfx jyPs m m' ∧ jyQ D S m' ∧ jySl (jstr D H L0 x1 x2).2 m' := by
  have hL := hQ.1.1
  have hD := hDS.1
  unfold c_X10_strip jstr
  rw [y_isSheet, jb_some]
  cases e1 : jin x1 4 with
  | false =>
    rw [if_pos (show jbi false = 0 from rfl), if_neg (show ¬ (false = true ∧ _) from fun q => by cases q.1)]
    exact ⟨m, rfl, jfx.rfl, hQ, hS⟩
  | true =>
    obtain ⟨s, rfl, hs2, hs⟩ := jin_nat e1
    obtain ⟨k1, k2, k3, k4, k5⟩ := hH s hs
    rw [if_neg (show ¬ jbi true = 0 by decide), ji_n hs2]
    by_cases e2 : 0 ≤ x2
    · rw [if_pos (jc_0le.mpr e2), if_pos (show true = true ∧ 0 ≤ x2 from ⟨rfl, e2⟩), jgd_t hL.1, hQ.1.2.1.2.2.1]
      by_cases hq0 : jDq D = 0
      · rw [if_pos ((jDq_0 hD).mpr hq0), if_pos hq0]
        exact ⟨m, rfl, jfx.rfl, hQ, hS⟩
      rw [if_neg (fun h => hq0 ((jDq_0 hD).mp h)), if_neg hq0, jp_125 hL, jgd_t (jk_125 hL), jz_125 hL, jgd_t (ji_int (by omega) hs), k1]
      cases e3 : H.1 s with
      | false => exact ⟨m, rfl, jfx.rfl, hQ, hS⟩
      | true =>
        obtain ⟨-, -, l3⟩ := k4 e3
        rw [if_neg (show ¬ jbi true = 0 by decide), if_pos (show true = true from rfl), jp_127 hL, jgd_t (jk_127 hL), jz_127 hL, jgd_t (ji_int (by omega) hs), l3]
        by_cases e4 : H.2.2.1 s ≤ 12
        · rw [if_pos (show Int32.ofNat (H.2.2.1 s) ≤ (12 : Int32) from ji_lep (b := 12) (by omega) (by omega) e4), if_pos e4]
          have hx0 : jfx (fun a i => a = 101 ∧ i = 49) m (jsI m 101 49 (0 : Int32)) := jfx_I ⟨rfl, rfl⟩
          have hQ0 : jyQ D S (jsI m 101 49 (0 : Int32)) := jyQ_fx hx0 (by omega) (jRf_fx hx0 (fun a i q => by unfold jSr at q; omega) hQ.1) hQ
          have h490 : jI (jsI m 101 49 (0 : Int32)) 101 49 = 0 := jsI_y
          have l30 : jI (jsI m 101 49 (0 : Int32)) 127 s = Int32.ofNat (H.2.2.1 s) := by rw [jsI_no (by omega)]; exact l3
          have k50 : ∀ i, i < H.2.2.1 s → jL (jsI m 101 49 (0 : Int32)) 128 (40 * s + i) = H.2.2.2 s i := k5
          generalize jsI m 101 49 (0 : Int32) = m0 at hx0 hQ0 h490 l30 k50 ⊢
          have hf := jstp_f (L := fun i => jL m0 128 (40 * s + i)) (D := D) (x := x2) (H.2.2.1 s) 0
          have hcc : jstp (fun i => jL m0 128 (40 * s + i)) x2 D (H.2.2.1 s) 0 = jstp (H.2.2.2 s) x2 D (H.2.2.1 s) 0 := jstp_c _ 0 (fun i hi => k50 i (by omega))
          obtain ⟨m1, a1, a2, a3⟩ := y_strip_l63 (F := F) (D := D) hF (L := fun i => jL m0 128 (40 * s + i)) hs e4 (x := x2) (H.2.2.1 s) 0 F m0 (by omega) (by omega) hq0 hDS hQ0 l30 (fun _ => rfl)
          have a1 : c_X10_strip_l63 F F m0 101 (Int32.ofNat s) x2 (0 : Int32) (0 : Int32) = _ := a1
          have h491 : jI m1 101 49 = Int32.ofNat 0 := by rw [a2.I (by unfold jyP jyO; omega)]; exact h490
          obtain ⟨m2, b1, b2, b3, b4⟩ := y_strip_l205 (F := F) (L := fun i => jL m0 128 (40 * s + i)) hs hDS (o' := (jstp (fun i => jL m0 128 (40 * s + i)) x2 D (H.2.2.1 s) 0).1) (y5 := (jstp (fun i => jL m0 128 (40 * s + i)) x2 D (H.2.2.1 s) 0).2) (by omega) (fun j hj => hf.2.2 j (Nat.zero_le j) hj) (jstp (fun i => jL m0 128 (40 * s + i)) x2 D (H.2.2.1 s) 0).1 0 F m1 (by omega) (by omega) a3 h491 (fun j hj => by rw [a2.L (by unfold jyP jyO; omega)]) (fun j hj => absurd hj (Nat.not_lt_zero j))
          rw [a1, jb_some]
          dsimp only
          rw [b1, jb_some]
          dsimp only
          have hS2 : jySl ((jstp (H.2.2.2 s) x2 D (H.2.2.1 s) 0).1, fun i => Int64.toInt32 (H.2.2.2 s ((jstp (H.2.2.2 s) x2 D (H.2.2.1 s) 0).1 - 1 - i))) m2 := by
            rw [← hcc]
            obtain ⟨z1, z2, z3⟩ := b4
            refine ⟨z1, z2, fun i hi => ?_⟩
            have hi : i < (jstp (fun i => jL m0 128 (40 * s + i)) x2 D (H.2.2.1 s) 0).1 := hi
            rw [z3 i hi]
            show Int64.toInt32 (jL m0 128 (40 * s + _)) = Int64.toInt32 (H.2.2.2 s _)
            rw [k50 _ (by omega)]
          rw [hcc]
          refine ⟨m2, ?_, ((hx0.weak (fun a i q => Or.inr (Or.inr q))).trans (a2.weak (fun a i q => Or.inl q))).trans b2, b3, hS2⟩
          split <;> rfl
        · rw [if_neg (show ¬ Int32.ofNat (H.2.2.1 s) ≤ (12 : Int32) from ji_len (b := 12) (by omega) (by omega) e4), if_neg e4]
          exact ⟨m, rfl, jfx.rfl, hQ, hS⟩
    · rw [if_neg (fun q => e2 (jc_0le.mp q)), if_neg (show ¬ (true = true ∧ 0 ≤ x2) from fun q => e2 q.2)]
      exact ⟨m, rfl, jfx.rfl, hQ, hS⟩
end YSTRIP
