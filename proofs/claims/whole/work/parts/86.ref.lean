/-! the reference's cells; its small methods -/
def jmi (j : Nat) : Nat := [1, 2, 5, 7, 8, 9, 11, 12, 13, 26, 27, 28, 32, 33, 34, 36, 42, 45, 46, 48, 50, 51, 52, 56, 57, 58, 59].getD j 0
def jmk (j : Nat) : Nat := [1, 1, 1, 1, 1, 1, 1, 1, 4, 2, 1, 1, 2, 4, 2, 1, 2, 2, 2, 1, 1, 4, 1, 4, 1, 1, 2].getD j 0
def jmz (j : Nat) : Nat := [960, 6, 160, 4, 4, 4, 192, 32, 32, 256, 256, 4, 32, 4, 4, 4, 4, 16, 16, 12, 32, 32, 4, 4, 4, 4, 160].getD j 0
def jLM (m : jMe) : Prop := jK m 101 = 42 ∧ ∀ j, j < 27 → jP m 101 (jmi j) = 102 + j ∧ jK m (102 + j) = jmk j ∧ jZ m (102 + j) = jmz j
theorem jLM_of {m m' : jMe} (hK : jK m' = jK m) (hZ : jZ m' = jZ m) (hP : jP m' = jP m) (h : jLM m) : jLM m' := by
  unfold jLM at h ⊢
  rw [hK, hZ, hP]
  exact h
section JLM
variable {m : jMe}
theorem jp_102 (h : jLM m) : jP m 101 1 = 102 := (h.2 0 (by decide)).1
theorem jk_102 (h : jLM m) : jK m 102 = 1 := (h.2 0 (by decide)).2.1
theorem jz_102 (h : jLM m) : jZ m 102 = 960 := (h.2 0 (by decide)).2.2
theorem jp_103 (h : jLM m) : jP m 101 2 = 103 := (h.2 1 (by decide)).1
theorem jk_103 (h : jLM m) : jK m 103 = 1 := (h.2 1 (by decide)).2.1
theorem jz_103 (h : jLM m) : jZ m 103 = 6 := (h.2 1 (by decide)).2.2
theorem jp_104 (h : jLM m) : jP m 101 5 = 104 := (h.2 2 (by decide)).1
theorem jk_104 (h : jLM m) : jK m 104 = 1 := (h.2 2 (by decide)).2.1
theorem jz_104 (h : jLM m) : jZ m 104 = 160 := (h.2 2 (by decide)).2.2
theorem jp_105 (h : jLM m) : jP m 101 7 = 105 := (h.2 3 (by decide)).1
theorem jk_105 (h : jLM m) : jK m 105 = 1 := (h.2 3 (by decide)).2.1
theorem jz_105 (h : jLM m) : jZ m 105 = 4 := (h.2 3 (by decide)).2.2
theorem jp_106 (h : jLM m) : jP m 101 8 = 106 := (h.2 4 (by decide)).1
theorem jk_106 (h : jLM m) : jK m 106 = 1 := (h.2 4 (by decide)).2.1
theorem jz_106 (h : jLM m) : jZ m 106 = 4 := (h.2 4 (by decide)).2.2
theorem jp_107 (h : jLM m) : jP m 101 9 = 107 := (h.2 5 (by decide)).1
theorem jk_107 (h : jLM m) : jK m 107 = 1 := (h.2 5 (by decide)).2.1
theorem jz_107 (h : jLM m) : jZ m 107 = 4 := (h.2 5 (by decide)).2.2
theorem jp_108 (h : jLM m) : jP m 101 11 = 108 := (h.2 6 (by decide)).1
theorem jk_108 (h : jLM m) : jK m 108 = 1 := (h.2 6 (by decide)).2.1
theorem jz_108 (h : jLM m) : jZ m 108 = 192 := (h.2 6 (by decide)).2.2
theorem jp_109 (h : jLM m) : jP m 101 12 = 109 := (h.2 7 (by decide)).1
theorem jk_109 (h : jLM m) : jK m 109 = 1 := (h.2 7 (by decide)).2.1
theorem jz_109 (h : jLM m) : jZ m 109 = 32 := (h.2 7 (by decide)).2.2
theorem jp_110 (h : jLM m) : jP m 101 13 = 110 := (h.2 8 (by decide)).1
theorem jk_110 (h : jLM m) : jK m 110 = 4 := (h.2 8 (by decide)).2.1
theorem jz_110 (h : jLM m) : jZ m 110 = 32 := (h.2 8 (by decide)).2.2
theorem jp_111 (h : jLM m) : jP m 101 26 = 111 := (h.2 9 (by decide)).1
theorem jk_111 (h : jLM m) : jK m 111 = 2 := (h.2 9 (by decide)).2.1
theorem jz_111 (h : jLM m) : jZ m 111 = 256 := (h.2 9 (by decide)).2.2
theorem jp_112 (h : jLM m) : jP m 101 27 = 112 := (h.2 10 (by decide)).1
theorem jk_112 (h : jLM m) : jK m 112 = 1 := (h.2 10 (by decide)).2.1
theorem jz_112 (h : jLM m) : jZ m 112 = 256 := (h.2 10 (by decide)).2.2
theorem jp_113 (h : jLM m) : jP m 101 28 = 113 := (h.2 11 (by decide)).1
theorem jk_113 (h : jLM m) : jK m 113 = 1 := (h.2 11 (by decide)).2.1
theorem jz_113 (h : jLM m) : jZ m 113 = 4 := (h.2 11 (by decide)).2.2
theorem jp_114 (h : jLM m) : jP m 101 32 = 114 := (h.2 12 (by decide)).1
theorem jk_114 (h : jLM m) : jK m 114 = 2 := (h.2 12 (by decide)).2.1
theorem jz_114 (h : jLM m) : jZ m 114 = 32 := (h.2 12 (by decide)).2.2
theorem jp_115 (h : jLM m) : jP m 101 33 = 115 := (h.2 13 (by decide)).1
theorem jk_115 (h : jLM m) : jK m 115 = 4 := (h.2 13 (by decide)).2.1
theorem jz_115 (h : jLM m) : jZ m 115 = 4 := (h.2 13 (by decide)).2.2
theorem jp_116 (h : jLM m) : jP m 101 34 = 116 := (h.2 14 (by decide)).1
theorem jk_116 (h : jLM m) : jK m 116 = 2 := (h.2 14 (by decide)).2.1
theorem jz_116 (h : jLM m) : jZ m 116 = 4 := (h.2 14 (by decide)).2.2
theorem jp_117 (h : jLM m) : jP m 101 36 = 117 := (h.2 15 (by decide)).1
theorem jk_117 (h : jLM m) : jK m 117 = 1 := (h.2 15 (by decide)).2.1
theorem jz_117 (h : jLM m) : jZ m 117 = 4 := (h.2 15 (by decide)).2.2
theorem jp_118 (h : jLM m) : jP m 101 42 = 118 := (h.2 16 (by decide)).1
theorem jk_118 (h : jLM m) : jK m 118 = 2 := (h.2 16 (by decide)).2.1
theorem jz_118 (h : jLM m) : jZ m 118 = 4 := (h.2 16 (by decide)).2.2
theorem jp_119 (h : jLM m) : jP m 101 45 = 119 := (h.2 17 (by decide)).1
theorem jk_119 (h : jLM m) : jK m 119 = 2 := (h.2 17 (by decide)).2.1
theorem jz_119 (h : jLM m) : jZ m 119 = 16 := (h.2 17 (by decide)).2.2
theorem jp_120 (h : jLM m) : jP m 101 46 = 120 := (h.2 18 (by decide)).1
theorem jk_120 (h : jLM m) : jK m 120 = 2 := (h.2 18 (by decide)).2.1
theorem jz_120 (h : jLM m) : jZ m 120 = 16 := (h.2 18 (by decide)).2.2
theorem jp_121 (h : jLM m) : jP m 101 48 = 121 := (h.2 19 (by decide)).1
theorem jk_121 (h : jLM m) : jK m 121 = 1 := (h.2 19 (by decide)).2.1
theorem jz_121 (h : jLM m) : jZ m 121 = 12 := (h.2 19 (by decide)).2.2
theorem jp_122 (h : jLM m) : jP m 101 50 = 122 := (h.2 20 (by decide)).1
theorem jk_122 (h : jLM m) : jK m 122 = 1 := (h.2 20 (by decide)).2.1
theorem jz_122 (h : jLM m) : jZ m 122 = 32 := (h.2 20 (by decide)).2.2
theorem jp_123 (h : jLM m) : jP m 101 51 = 123 := (h.2 21 (by decide)).1
theorem jk_123 (h : jLM m) : jK m 123 = 4 := (h.2 21 (by decide)).2.1
theorem jz_123 (h : jLM m) : jZ m 123 = 32 := (h.2 21 (by decide)).2.2
theorem jp_124 (h : jLM m) : jP m 101 52 = 124 := (h.2 22 (by decide)).1
theorem jk_124 (h : jLM m) : jK m 124 = 1 := (h.2 22 (by decide)).2.1
theorem jz_124 (h : jLM m) : jZ m 124 = 4 := (h.2 22 (by decide)).2.2
theorem jp_125 (h : jLM m) : jP m 101 56 = 125 := (h.2 23 (by decide)).1
theorem jk_125 (h : jLM m) : jK m 125 = 4 := (h.2 23 (by decide)).2.1
theorem jz_125 (h : jLM m) : jZ m 125 = 4 := (h.2 23 (by decide)).2.2
theorem jp_126 (h : jLM m) : jP m 101 57 = 126 := (h.2 24 (by decide)).1
theorem jk_126 (h : jLM m) : jK m 126 = 1 := (h.2 24 (by decide)).2.1
theorem jz_126 (h : jLM m) : jZ m 126 = 4 := (h.2 24 (by decide)).2.2
theorem jp_127 (h : jLM m) : jP m 101 58 = 127 := (h.2 25 (by decide)).1
theorem jk_127 (h : jLM m) : jK m 127 = 1 := (h.2 25 (by decide)).2.1
theorem jz_127 (h : jLM m) : jZ m 127 = 4 := (h.2 25 (by decide)).2.2
theorem jp_128 (h : jLM m) : jP m 101 59 = 128 := (h.2 26 (by decide)).1
theorem jk_128 (h : jLM m) : jK m 128 = 2 := (h.2 26 (by decide)).2.1
theorem jz_128 (h : jLM m) : jZ m 128 = 160 := (h.2 26 (by decide)).2.2
end JLM
theorem jt64 {n : Nat} (h : n < 2147483648) : Int32.toInt64 (Int32.ofNat n) = Int64.ofNat n := Int32.toInt64_ofNat' (by have : Int32.maxValue.toInt = 2147483647 := rfl; omega)
theorem jt64_neg {x : Int32} (h : x < 0) : Int32.toInt64 x < 0 := by
  rw [Int64.lt_iff_toInt_lt, Int32.toInt_toInt64]
  exact Int32.lt_iff_toInt_lt.mp h
section YSMALL
variable {F : Nat} {m : jMe}
theorem q_in {x lo hi : Int64} : c_X10_in F m x lo hi = some (jbi (decide (lo ≤ x) && decide (x ≤ hi))) := by
  unfold c_X10_in
  by_cases h1 : x < lo
  · rw [if_pos (jc_lt0.mpr h1), decide_eq_false (Int64.not_le.mpr h1), Bool.false_and]
    rfl
  · rw [if_neg (fun h => h1 (jc_lt0.mp h)), decide_eq_true (Int64.not_lt.mp h1), Bool.true_and]
    by_cases h2 : hi < x
    · rw [if_pos (jc_0lt.mpr h2), decide_eq_false (Int64.not_le.mpr h2)]
      rfl
    · rw [if_neg (fun h => h2 (jc_0lt.mp h)), decide_eq_true (Int64.not_lt.mp h2)]
      rfl
theorem q_in_nat {v lo hi : Nat} (hv : v ≤ jMX) (hl : lo ≤ jMX) (hh : hi ≤ jMX) : c_X10_in F m (Int64.ofNat v) (Int64.ofNat lo) (Int64.ofNat hi) = some (jbi (decide (lo ≤ v ∧ v ≤ hi))) := by
  rw [q_in, Bool.decide_and, decide_eq_decide.mpr (jq_le hl hv), decide_eq_decide.mpr (jq_le hv hh)]
theorem q_in_neg {x hi : Int64} {lo : Nat} (hx : x < 0) (hl : lo ≤ jMX) : c_X10_in F m x (Int64.ofNat lo) hi = some 0 := by
  rw [q_in, decide_eq_false (fun h => absurd (Int64.lt_of_le_of_lt (Int64.le_trans (jq_0le hl) h) hx) Int64.lt_irrefl), Bool.false_and]
  rfl
theorem q_in_jin {x : Int32} {z : Nat} (hz : z < 2147483648) : c_X10_in F m (Int32.toInt64 x) (0 : Int64) (Int32.toInt64 (Int32.ofNat z - (1 : Int32))) = some (jbi (jin x z)) := by
  by_cases hx : x < 0
  · rw [jin_neg hx, show (0 : Int64) = Int64.ofNat 0 from rfl, q_in_neg (jt64_neg hx) (by omega)]
    rfl
  · obtain ⟨k, rfl, hk⟩ := ji_nat hx
    rw [ji_in hk, jt64 hk]
    by_cases h0 : z = 0
    · subst h0
      rw [q_in, decide_eq_false (show ¬ k < 0 by omega), decide_eq_false (p := Int64.ofNat k ≤ _), Bool.and_false]
      intro h
      have h1 : Int32.toInt64 (Int32.ofNat 0 - 1) < 0 := by decide
      exact absurd (Int64.lt_of_le_of_lt (Int64.le_trans (jq_0le (a := k) (by unfold jMX; omega)) h) h1) Int64.lt_irrefl
    · rw [jl_1, ji_sub (by omega), jt64 (by omega), show (0 : Int64) = Int64.ofNat 0 from rfl, q_in_nat (by unfold jMX; omega) (by omega) (by unfold jMX; omega)]
      congr 2
      exact decide_eq_decide.mpr (by omega)
/-- an int between two numbers -/
def jbt2 (x : Int32) (lo hi : Nat) : Bool := decide (0 ≤ x) && decide (lo ≤ x.toNatClampNeg ∧ x.toNatClampNeg ≤ hi)
theorem q_in_int {x : Int32} {lo hi : Nat} (hl : lo < 2147483648) (hh : hi < 4294967296) : c_X10_in F m (Int32.toInt64 x) (Int64.ofNat lo) (Int64.ofNat hi) = some (jbi (jbt2 x lo hi)) := by
  unfold jbt2
  by_cases hx : x < 0
  · rw [q_in_neg (jt64_neg hx) (by unfold jMX; omega), decide_eq_false (Int32.not_le.mpr hx), Bool.false_and]
    rfl
  · obtain ⟨k, rfl, hk⟩ := ji_nat hx
    rw [jt64 hk, q_in_nat (by unfold jMX; omega) (by unfold jMX; omega) (by unfold jMX; omega), ji_n hk, decide_eq_true (ji_0le hk), Bool.true_and]
/-- how many bits -/
theorem jpop_clr : ∀ n, n < 256 → n ≠ 0 → Int32.ofNat n &&& (Int32.ofNat n - 1) = Int32.ofNat (n &&& (n - 1)) ∧ n &&& (n - 1) < 256 ∧ jpop 8 n = jpop 8 (n &&& (n - 1)) + 1 := by decide +kernel
theorem jpop_0 : jpop 8 0 = 0 := by decide
theorem q_bitsOf_l4 : ∀ (t n c f : Nat), jpop 8 n ≤ t → n < 256 → t < f → c + t < 100000 → c_X10_bitsOf_l4 F m f (Int32.ofNat c) (Int32.ofNat n) = some (Int32.ofNat (c + jpop 8 n)) := by
  intro t
  induction t with
  | zero =>
    intro n c f h1 h2 h3 h4
    obtain ⟨f, rfl⟩ := jsucc h3
    have h0 : n = 0 := by
      rcases Nat.eq_zero_or_pos n with h | h
      · exact h
      · have := (jpop_clr n h2 (by omega)).2.2
        omega
    subst h0
    show c_X10_bitsOf_l4_b F _ m _ _ = _
    unfold c_X10_bitsOf_l4_b
    rw [if_pos (show Int32.ofNat 0 = 0 from rfl), jpop_0, Nat.add_zero]
  | succ t ih =>
    intro n c f h1 h2 h3 h4
    obtain ⟨f, rfl⟩ := jsucc (show t < f by omega)
    show c_X10_bitsOf_l4_b F _ m _ _ = _
    unfold c_X10_bitsOf_l4_b
    by_cases h0 : n = 0
    · subst h0
      rw [if_pos (show Int32.ofNat 0 = 0 from rfl), jpop_0, Nat.add_zero]
    · obtain ⟨e1, e2, e3⟩ := jpop_clr n h2 h0
      rw [if_neg (show ¬ Int32.ofNat n = 0 from ji_eqn (b := 0) (by omega) (by omega) h0), e1, jl_1, ji_add]
      dsimp only
      rw [ih _ (c + 1) _ (by omega) e2 (by omega) (by omega), e3]
      congr 2
      omega
end YSMALL
/-- the reference's cells hold D's -/
def jCm (D : jD) (m : jMe) : Prop := jI m 101 10 = Int32.ofNat (jDn D) ∧ jI m 101 4 = Int32.ofNat (jDr D) ∧ jI m 101 14 = Int32.ofNat (jDq D) ∧ ∀ r, r < 4 → jI m 105 r = Int32.ofNat (jDk D r) ∧ jI m 106 r = Int32.ofNat (jDa D r) ∧ jI m 107 r = Int32.ofNat (jDz D r) ∧ ∀ k, k < jDz D r → (∀ a, a < 6 → jI m 108 (48 * r + 6 * k + a) = jDw D r k a) ∧ jI m 109 (8 * r + k) = Int32.ofNat (jDc D r k) ∧ jI m 110 (8 * r + k) = jbi ((jDl D r).testBit k)
/-- places that jCm reads -/
def jSm (a i : Nat) : Prop := (a = 101 ∧ (i = 10 ∨ i = 4 ∨ i = 14)) ∨ (105 ≤ a ∧ a ≤ 110)
theorem jCm_of {D : jD} {m m' : jMe} (h : ∀ a i, jSm a i → jI m' a i = jI m a i) (k : jCm D m) : jCm D m' := by
  obtain ⟨k1, k2, k3, k4⟩ := k
  refine ⟨by rw [h _ _ (by unfold jSm; omega)]; exact k1, by rw [h _ _ (by unfold jSm; omega)]; exact k2, by rw [h _ _ (by unfold jSm; omega)]; exact k3, fun r hr => ?_⟩
  obtain ⟨g1, g2, g3, g4⟩ := k4 r hr
  refine ⟨by rw [h _ _ (by unfold jSm; omega)]; exact g1, by rw [h _ _ (by unfold jSm; omega)]; exact g2, by rw [h _ _ (by unfold jSm; omega)]; exact g3, fun k hk => ?_⟩
  obtain ⟨f1, f2, f3⟩ := g4 k hk
  exact ⟨fun a ha => by rw [h _ _ (by unfold jSm; omega)]; exact f1 a ha, by rw [h _ _ (by unfold jSm; omega)]; exact f2, by rw [h _ _ (by unfold jSm; omega)]; exact f3⟩
theorem jCm_fx {S : Nat → Nat → Prop} {D : jD} {m m' : jMe} (h : jfx S m m') (hS : ∀ a i, jSm a i → ¬ S a i) (k : jCm D m) : jCm D m' := jCm_of (fun a i q => h.I (hS a i q)) k
theorem jLM_fx {S : Nat → Nat → Prop} {m m' : jMe} (h : jfx S m m') (k : jLM m) : jLM m' := jLM_of h.K h.Z h.P k
theorem jshr_1 {n i : Nat} (hn : n < 64) (hi : i < 8) : (jshr (Int32.ofNat n) (Int32.ofNat i)) &&& (1 : Int32) = jbi (n.testBit i) := by
  have : ∀ n : Fin 64, ∀ i : Fin 8, (jshr (Int32.ofNat n.1) (Int32.ofNat i.1)) &&& (1 : Int32) = jbi (n.1.testBit i.1) := by decide +kernel
  exact this ⟨n, hn⟩ ⟨i, hi⟩
/-- over: the kind over a kind; whether one is under another one -/
def jov (k : Nat) : Int32 := if k = 0 then -1 else if k = 3 then 1 else if k = 4 then 2 else if k = 5 then 3 else 0
section YREL
variable {F : Nat} {D : jD} {m : jMe}
theorem q_bitsOf (hF : 100 < F) {n : Nat} (hn : n < 256) : c_X10_bitsOf F m (Int32.ofNat n) = some (Int32.ofNat (jpop 8 n)) := by
  unfold c_X10_bitsOf
  have := jpop_le 8 n
  have h := q_bitsOf_l4 (F := F) (m := m) 8 n 0 F (jpop_le 8 n) hn (by omega) (by omega)
  rw [Nat.zero_add] at h
  rw [jl_0, h]
  rfl
theorem y_isRelation (hL : jLM m) (hC : jCm D m) (hD : jDok D) {x : Int32} : c_X10_isRelation F m 101 x = some (jbi (jin x (jDn D))) := by
  have := hD.1
  unfold c_X10_isRelation
  rw [jgd_t hL.1, hC.1, q_in_jin (by omega), jb_some, jgd_t (by cases jin x (jDn D) <;> simp [jbi])]
/-- whether there is such a row -/
def jrow (D : jD) (x y : Int32) : Bool := jin x (jDn D) && jin y (jDz D x.toNatClampNeg)
theorem y_isRow (hL : jLM m) (hC : jCm D m) (hD : jDok D) {x y : Int32} : c_X10_isRow F m 101 x y = some (jbi (jrow D x y)) := by
  have hn := hD.1
  unfold c_X10_isRow jrow
  rw [jgd_t hL.1, y_isRelation hL hC hD, jb_some]
  cases e : jin x (jDn D) with
  | false => rw [if_pos (by decide)]; rfl
  | true =>
    obtain ⟨r, rfl, hr, hr4⟩ := jin_nat e
    have hz := (hD.2.2.1 r (by omega)).2.2.1
    rw [if_neg (by decide), jp_107 hL, jgd_t (jk_107 hL), jz_107 hL, jgd_t (ji_int hr (by omega)), ji_n hr, (hC.2.2.2 r (by omega)).2.2.1, q_in_jin (by omega), jb_some]
    cases jin y (jDz D r) <;> rfl
theorem jrow_nat {x y : Int32} (h : jrow D x y = true) : ∃ r k, x = Int32.ofNat r ∧ y = Int32.ofNat k ∧ r < jDn D ∧ k < jDz D r ∧ r < 2147483648 ∧ k < 2147483648 := by
  unfold jrow at h
  rw [Bool.and_eq_true] at h
  obtain ⟨r, rfl, hr, hr4⟩ := jin_nat h.1
  have h2 := h.2
  rw [ji_n hr] at h2
  obtain ⟨k, rfl, hk, hk8⟩ := jin_nat h2
  exact ⟨r, k, rfl, rfl, hr4, hk8, hr, hk⟩
theorem y_isIn (hL : jLM m) (hC : jCm D m) (hq : jDq D < 16) {i : Nat} (hi : i < 8) : c_X10_isIn F m 101 (Int32.ofNat i) = some (jbi ((jDq D).testBit i)) := by
  unfold c_X10_isIn
  rw [jgd_t hL.1, hC.2.2.1, jshr_1 (by omega) hi]
  cases (jDq D).testBit i <;> rfl
theorem y_val (hL : jLM m) {r k a : Nat} (hr : r < 4) (hk : k < 8) (ha : a < 6) : c_X10_val F m 101 (Int32.ofNat r) (Int32.ofNat k) (Int32.ofNat a) = some (jI m 108 (48 * r + 6 * k + a)) := by
  unfold c_X10_val
  rw [jgd_t hL.1, jp_108 hL, jgd_t (jk_108 hL), jz_108 hL, show (48 : Int32) = Int32.ofNat 48 from rfl, show (6 : Int32) = Int32.ofNat 6 from rfl, ji_mul, ji_mul, ji_add, ji_add, jgd_t (ji_int (by omega) (by omega)), ji_n (by omega)]
theorem y_valD (hL : jLM m) (hC : jCm D m) {r k a : Nat} (hr : r < 4) (hk : k < jDz D r) (hk8 : k < 8) (ha : a < 6) : c_X10_val F m 101 (Int32.ofNat r) (Int32.ofNat k) (Int32.ofNat a) = some (jDw D r k a) := by
  rw [y_val hL hr hk8 ha, ((hC.2.2.2 r hr).2.2.2 k hk).1 a ha]
theorem y_attribute_l5 (hL : jLM m) (hC : jCm D m) (hD : jDok D) {r : Nat} (hr : r < 4) : ∀ (t a d i f : Nat), a + t = 6 → t < f → i + d < 20 → c_X10_attribute_l5 F m f 101 (Int32.ofNat r) (Int32.ofNat (i + d)) (Int32.ofNat i) (Int32.ofNat a) = some (match jatg (jDa D r) t a d with | none => .inr () | some a => .inl (Int32.ofNat a)) := by
  have h64 := (hD.2.2.1 r hr).2.1
  intro t
  induction t with
  | zero =>
    intro a d i f h1 h2 h3
    obtain ⟨g, rfl⟩ := jsucc h2
    show c_X10_attribute_l5_b F _ m _ _ _ _ _ = _
    unfold c_X10_attribute_l5_b
    rw [if_pos (show (6 : Int32) ≤ Int32.ofNat a from ji_lep (a := 6) (by omega) (by omega) (by omega))]
    rfl
  | succ t ih =>
    intro a d i f h1 h2 h3
    obtain ⟨g, rfl⟩ := jsucc h2
    show c_X10_attribute_l5_b F _ m _ _ _ _ _ = _
    unfold c_X10_attribute_l5_b
    rw [if_neg (show ¬ (6 : Int32) ≤ Int32.ofNat a from ji_len (a := 6) (by omega) (by omega) (by omega)), jgd_t hL.1, jp_106 hL, jgd_t (jk_106 hL), jz_106 hL, jgd_t (ji_int (by omega) (by omega)), ji_n (by omega), (hC.2.2.2 r hr).2.1, jshr_1 h64 (by omega), jl_1, ji_add, ji_add]
    unfold jatg
    cases (jDa D r).testBit a with
    | false =>
      rw [if_neg (by decide)]
      exact ih (a + 1) d i g (by omega) (by omega) h3
    | true =>
      rw [if_pos (by decide)]
      cases d with
      | zero =>
        rw [if_pos (show Int32.ofNat i = Int32.ofNat (i + 0) from rfl)]
        rfl
      | succ d =>
        rw [if_neg (ji_eqn (by omega) (by omega) (by omega))]
        have := ih (a + 1) d (i + 1) g (by omega) (by omega) (by omega)
        rw [show i + (d + 1) = i + 1 + d by omega]
        exact this
theorem y_attribute (hF : 100 < F) (hL : jLM m) (hC : jCm D m) (hD : jDok D) {r d : Nat} (hr : r < 4) (hd : d < 10) : c_X10_attribute F m 101 (Int32.ofNat r) (Int32.ofNat d) = some (jo1 (jatt (jDa D r) d)) := by
  unfold c_X10_attribute
  have h := y_attribute_l5 (F := F) hL hC hD hr 6 0 d 0 F (by omega) (by omega) (by omega)
  rw [Nat.zero_add] at h
  rw [jl_0, h]
  unfold jatt
  cases jatg (jDa D r) 6 0 d <;> rfl
theorem jov_e : ∀ k, k < 6 → (jov k = -1 ∧ k = 0) ∨ ∃ j, j < 6 ∧ jov k = Int32.ofNat j ∧ j < k ∧ (∀ i, i < 6 → i ≠ k → jisa k i = jisa j i) := by
  have : ∀ k : Fin 6, (jov k.1 = -1 ∧ k.1 = 0) ∨ ∃ j : Fin 6, jov k.1 = Int32.ofNat j.1 ∧ j.1 < k.1 ∧ (∀ i : Fin 6, i.1 ≠ k.1 → jisa k.1 i.1 = jisa j.1 i.1) := by decide +kernel
  intro k hk
  rcases this ⟨k, hk⟩ with h | ⟨j, h1, h2, h3⟩
  · exact Or.inl h
  · exact Or.inr ⟨j.1, j.2, h1, h2, fun i hi hn => h3 ⟨i, hi⟩ hn⟩
theorem jisa_self : ∀ k, k < 6 → jisa k k = true := by decide
theorem jisa_0 : ∀ i, i < 6 → i ≠ 0 → jisa 0 i = false := by decide
theorem y_over {k : Nat} (hk : k < 6) : c_X10_over F m (Int32.ofNat k) = some (jov k) := by
  have : ∀ k : Fin 6, c_X10_over 0 (0, 0, fun _ => 0, fun _ => 0, fun _ _ => 0, fun _ _ => 0, fun _ _ => 0) (Int32.ofNat k.1) = some (jov k.1) := by decide +kernel
  exact this ⟨k, hk⟩
theorem y_isUnder_l2 {i : Nat} (hi : i < 6) : ∀ (t k f : Nat), k ≤ t → k < 6 → t + 1 < f → ∃ x, c_X10_isUnder_l2 F m f (Int32.ofNat i) (Int32.ofNat k) = some (Int32.ofNat i, x) ∧ (x = Int32.ofNat i ↔ jisa k i = true) := by
  intro t
  induction t with
  | zero =>
    intro k f h1 h2 h3
    obtain ⟨f, rfl⟩ := jsucc (show 0 < f by omega)
    have hk : k = 0 := by omega
    subst hk
    obtain ⟨f, rfl⟩ := jsucc (show 0 < f by omega)
    show ∃ x, c_X10_isUnder_l2_b F _ m _ _ = _ ∧ _
    unfold c_X10_isUnder_l2_b
    rw [if_neg (ji_m1 (by omega))]
    by_cases e : 0 = i
    · subst e
      rw [if_pos rfl]
      exact ⟨_, rfl, by simp [jisa_self 0 (by omega)]⟩
    · rw [if_neg (ji_eqn (by omega) (by omega) e), y_over (by omega), jb_some]
      refine ⟨-1, ?_, ?_⟩
      · show c_X10_isUnder_l2_b F _ m _ (-1) = _
        unfold c_X10_isUnder_l2_b
        rw [if_pos rfl]
      · rw [jisa_0 i hi (by omega)]
        constructor
        · intro h
          exact absurd h.symm (ji_m1 (by omega))
        · intro h
          cases h
  | succ t ih =>
    intro k f h1 h2 h3
    obtain ⟨f, rfl⟩ := jsucc (show 0 < f by omega)
    by_cases hk : k ≤ t
    · exact ih k (f + 1) hk h2 (by omega)
    show ∃ x, c_X10_isUnder_l2_b F _ m _ _ = _ ∧ _
    unfold c_X10_isUnder_l2_b
    rw [if_neg (ji_m1 (by omega))]
    by_cases e : k = i
    · subst e
      rw [if_pos rfl]
      exact ⟨_, rfl, by simp [jisa_self k h2]⟩
    · rw [if_neg (ji_eqn (by omega) (by omega) e), y_over h2, jb_some]
      rcases jov_e k h2 with h | ⟨j, j1, j2, j3, j4⟩
      · omega
      · rw [j2, j4 i hi (Ne.symm e)]
        exact ih j f (by omega) j1 (by omega)
theorem y_isUnder (hF : 100 < F) {i k : Nat} (hi : i < 6) (hk : k < 6) : c_X10_isUnder F m (Int32.ofNat k) (Int32.ofNat i) = some (jbi (jisa k i)) := by
  obtain ⟨x, h1, h2⟩ := y_isUnder_l2 (F := F) (m := m) hi 6 k F (by omega) hk (by omega)
  unfold c_X10_isUnder c_X10_isUnder_j20
  rw [h1, jb_some]
  show (if x = Int32.ofNat i then _ else _) = _
  cases e : jisa k i with
  | true => rw [if_pos (h2.mpr e)]; rfl
  | false => rw [if_neg (fun h => by rw [h2.mp h] at e; cases e)]; rfl
end YREL
