/-! sheets, as the class holds them; whether a join is told -/
/-- of a sheet: its cell b, its items' c -/
abbrev jLsh (m : jMe) (b c : Nat) : Prop := jK m b = 37 ∧ jP m b 0 = c ∧ jK m c = 2 ∧ jZ m c = 40 ∧ b ≠ c
/-- a value as a sort holds it -/
def jsv1 (sort : Int32) (v : Int64) : Int64 := if sort = 0 then v else if sort = 1 then Int32.toInt64 (Int64.toInt32 v) else Int32.toInt64 (ji2b (Int64.toInt32 v))
section SMALL
variable {F b c : Nat} {D : jD} {m : jMe}
theorem q_shas (hL : jLsh m b c) {z : Nat} (hz : z ≤ 40) (h2 : jI m b 2 = Int32.ofNat z) {x : Int32} : c_X5_has F m b x = some (jbi (jin x z)) := by
  unfold c_X5_has
  by_cases hx : x < 0
  · rw [if_pos hx, jin_neg hx]
    rfl
  · obtain ⟨k, rfl, hk⟩ := ji_nat hx
    rw [if_neg hx, jgd_t hL.1, h2, ji_in hk]
    by_cases q : z ≤ k
    · rw [if_pos (ji_lep (by omega) hk q), decide_eq_false (by omega)]
      rfl
    · rw [if_neg (ji_len (by omega) hk q), decide_eq_true (by omega)]
      rfl
/-- whether n places from i on lie within z -/
def jrun (z : Nat) (i n : Int32) : Bool := decide (0 ≤ i) && decide (0 ≤ n) && decide (i.toNatClampNeg ≤ z) && decide (n.toNatClampNeg ≤ z - i.toNatClampNeg)
theorem q_shasRun (hL : jLsh m b c) {z : Nat} (hz : z ≤ 40) (h2 : jI m b 2 = Int32.ofNat z) {i n : Int32} : c_X5_hasRun F m b i n = some (jbi (jrun z i n)) := by
  unfold c_X5_hasRun jrun
  by_cases hi : i < 0
  · rw [if_pos hi, decide_eq_false (Int32.not_le.mpr hi), Bool.false_and, Bool.false_and, Bool.false_and]
    rfl
  obtain ⟨x, rfl, hx⟩ := ji_nat hi
  rw [if_neg hi, decide_eq_true (ji_0le hx), Bool.true_and]
  by_cases hn : n < 0
  · rw [if_pos hn, decide_eq_false (Int32.not_le.mpr hn), Bool.false_and, Bool.false_and]
    rfl
  obtain ⟨y, rfl, hy⟩ := ji_nat hn
  rw [if_neg hn, decide_eq_true (ji_0le hy), Bool.true_and, jgd_t hL.1, h2, ji_n hx, ji_n hy]
  by_cases q : z < x
  · rw [if_pos (ji_ltp (by omega) hx q), decide_eq_false (by omega), Bool.false_and]
    rfl
  · rw [if_neg (ji_ltn (by omega) hx q), decide_eq_true (show x ≤ z by omega), Bool.true_and, ji_sub (by omega)]
    by_cases q2 : z - x < y
    · rw [if_pos (ji_ltp (by omega) hy q2), decide_eq_false (by omega)]
      rfl
    · rw [if_neg (ji_ltn (by omega) hy q2), decide_eq_true (by omega)]
      rfl
theorem q_slay (hL : jLsh m b c) {i : Nat} (hi : i < 40) {v : Int64} : c_X5_lay F m b (Int32.ofNat i) v = some (jsL m c i (jsv1 (jI m b 1) v)) := by
  unfold c_X5_lay c_X5_lay_j34 jsv1
  simp only [hL.2.1, jgd_t hL.1, jgd_t hL.2.2.1, hL.2.2.2.1, jgd_t (ji_int (show i < 2147483648 by omega) hi), ji_n (show i < 2147483648 by omega)]
  by_cases h0 : jI m b 1 = 0
  · rw [if_pos h0, if_pos h0]
  · rw [if_neg h0, if_neg h0]
    by_cases h1 : jI m b 1 = 1
    · rw [if_pos h1, if_pos h1]
    · rw [if_neg h1, if_neg h1]
theorem q_sbecome (hF : 1000 < F) (hL : jLsh m b c) {s n : Int32} : ∃ m', c_X5_become F m b s n = some m' ∧ jfr (fun a => a = b ∨ a = c) m m' ∧ jI m' b 1 = s ∧ jI m' b 2 = n ∧ (∀ j, j < 40 → jL m' c j = 0) := by
  generalize hm1 : jsI (jsI m b 1 s) b 2 n = m1
  have hf1 : jfr (fun a => a = b ∨ a = c) m m1 := by
    rw [← hm1]
    exact (jsI_f (S := fun a => a = b ∨ a = c) (Or.inl rfl)).trans (jsI_f (Or.inl rfl))
  have hP1 : jP m1 = jP m := hf1.2.2.2.2.1
  obtain ⟨m2, a1, a2, a3⟩ := q_fillL (F := F) (x := 0) (b := c) (z := 40) (m := m1) (by omega) (by omega) (by rw [hf1.2.2.1]; exact hL.2.2.1) (by rw [hf1.2.2.2.1]; exact hL.2.2.2.1)
  refine ⟨m2, ?_, hf1.trans (a2.weak (fun a h => Or.inr h)), ?_, ?_, fun j hj => by rw [a3, if_pos hj]⟩
  · unfold c_X5_become
    rw [jgd_t hL.1, hm1, hP1, hL.2.1, a1, jb_some]
  · rw [a2.2.2.2.2.2.1 b hL.2.2.2.2, ← hm1, jsI_e, jupd_n (by omega), jsI_e, jupd_e]
  · rw [a2.2.2.2.2.2.1 b hL.2.2.2.2, ← hm1, jsI_e, jupd_e]
theorem q_isTold (hJ : jJ D b m) (hq : jDq D < 16) {g : Bool} (hg : jI m b 5 = jbi g) : c_X2_isTold F m b = some (jbi (!decide (jDq D = 0) && !g)) := by
  unfold c_X2_isTold
  rw [jgd_t hJ.1.1.1, hJ.2.2.1, hg]
  by_cases h : jDq D = 0
  · rw [if_pos (by rw [h]; rfl), decide_eq_true h]
    rfl
  · rw [if_neg (show ¬ Int32.ofNat (jDq D) = 0 from fun h2 => h ((ji_eq (b := 0) (by omega) (by omega)).mp h2)), decide_eq_false h]
    cases g <;> rfl
end SMALL
