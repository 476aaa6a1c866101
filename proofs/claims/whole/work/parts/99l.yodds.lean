/-! parts in lowest terms: Euclid, in a long's ring -/
section YODDS
theorem jlrem_e (x y : Int64) : jlrem x y = x % y := by
  apply Int64.toInt_inj.mp
  unfold jlrem
  rw [Int64.toInt_sub, Int64.toInt_mul, Int64.toInt_div, Int.bmod_mul_bmod, Int.sub_bmod_bmod, Int.mul_comm, ← Int.tmod_def, ← Int64.toInt_mod, Int64.toInt_bmod]
theorem jlrem_a (x y : Int64) : (jlrem x y).toInt.natAbs = x.toInt.natAbs % y.toInt.natAbs := by
  rw [jlrem_e, Int64.toInt_mod, Int.natAbs_tmod]
/-- j turns of Euclid lead from x, y to v -/
def jEu : Nat → Int64 → Int64 → Int64 → Prop
  | 0, x, y, v => y = 0 ∧ v = x
  | j + 1, x, y, v => y ≠ 0 ∧ jEu j y (jlrem x y) v
theorem jna0 {y : Int64} : y.toInt.natAbs = 0 ↔ y = 0 := by
  rw [Int.natAbs_eq_zero, ← Int64.toInt_zero, Int64.toInt_inj]
theorem jhalf {a b : Nat} (h0 : 0 < b) (h : b < a) : a % b < a / 2 + 1 ∧ 2 * (a % b) < a := by
  have h1 := Nat.div_add_mod a b
  have h2 := Nat.mod_lt a h0
  have h3 : 1 ≤ a / b := (Nat.le_div_iff_mul_le h0).mpr (by omega)
  have h4 : b * 1 ≤ b * (a / b) := Nat.mul_le_mul_left b h3
  omega
theorem jEu_ex : ∀ (k : Nat) (x y : Int64), y.toInt.natAbs < 2 ^ k → ∃ j v, j ≤ 2 * k ∧ jEu j x y v := by
  intro k
  induction k with
  | zero =>
    intro x y h
    exact ⟨0, x, by omega, jna0.mp (by rw [Nat.pow_zero] at h; omega), rfl⟩
  | succ k ih =>
    intro x y h
    by_cases e : y = 0
    · exact ⟨0, x, by omega, e, rfl⟩
    · have hy : 0 < y.toInt.natAbs := Nat.pos_of_ne_zero (fun h => e (jna0.mp h))
      by_cases e2 : jlrem x y = 0
      · exact ⟨1, y, by omega, e, e2, rfl⟩
      · have hr : 0 < (jlrem x y).toInt.natAbs := Nat.pos_of_ne_zero (fun h => e2 (jna0.mp h))
        have hl : (jlrem x y).toInt.natAbs < y.toInt.natAbs := by
          rw [jlrem_a]
          exact Nat.mod_lt _ hy
        have hs := jhalf hr hl
        rw [← jlrem_a] at hs
        obtain ⟨j, v, h1, h2⟩ := ih (jlrem x y) (jlrem y (jlrem x y)) (by rw [Nat.pow_succ] at h; omega)
        exact ⟨j + 2, v, by omega, e, e2, h2⟩
theorem jEu_n0 : ∀ (j : Nat) (x y v : Int64), jEu j x y v → (x ≠ 0 ∨ y ≠ 0) → v ≠ 0 := by
  intro j
  induction j with
  | zero =>
    intro x y v h h2
    rw [h.2]
    rcases h2 with h2 | h2
    · exact h2
    · exact absurd h.1 h2
  | succ j ih => exact fun x y v h _ => ih _ _ _ h.2 (Or.inl h.1)
theorem jEu_get (x y : Int64) : ∃ j v, j ≤ 128 ∧ jEu j x y v := by
  obtain ⟨j, v, h1, h2⟩ := jEu_ex 64 x y (by
    have h1 := Int64.le_toInt y
    have h2 := Int64.toInt_lt y
    omega)
  exact ⟨j, v, by omega, h2⟩
/-- of the common divisor v: a part of it -/
def jlo1 (v a b : Int64) (p : Int32) : Int64 := if p = 0 then a / v else b / v
theorem y_lowest_l6 {F : Nat} {m : jMe} {a b : Int64} {p : Int32} : ∀ (j f : Nat) (x y v : Int64), j < f → jEu j x y v → c_X10_lowest_l6 F m f a b p x y = some (a, b, p, v) := by
  intro j
  induction j with
  | zero =>
    intro f x y v h1 h2
    obtain ⟨f, rfl⟩ := jsucc h1
    show c_X10_lowest_l6_b F _ m _ _ _ _ _ = _
    unfold c_X10_lowest_l6_b
    rw [if_pos (show lg_cmp y 0 = 0 from jc_eq0.mpr h2.1), h2.2]
  | succ j ih =>
    intro f x y v h1 h2
    obtain ⟨f, rfl⟩ := jsucc h1
    show c_X10_lowest_l6_b F _ m _ _ _ _ _ = _
    unfold c_X10_lowest_l6_b
    rw [if_neg (show ¬ lg_cmp y 0 = 0 from fun h => h2.1 (jc_eq0.mp h)), jgd_t h2.1]
    exact ih f y (jlrem x y) v (by omega) h2.2
theorem y_lowest {F : Nat} (hF : 1000 < F) {m : jMe} {a b : Int64} {p : Int32} (hb : b ≠ 0) {j : Nat} {v : Int64} (hj : j ≤ 128) (h : jEu j a b v) : c_X10_lowest F m a b p = some (jlo1 v a b p) := by
  unfold c_X10_lowest jlo1
  rw [y_lowest_l6 j F a b v (by omega) h, jb_some]
  have hv := jEu_n0 j a b v h (Or.inr hb)
  dsimp only
  rw [jgd_t hv, jgd_t hv]
  by_cases e : p = 0
  · rw [if_pos e, if_pos e]
  · rw [if_neg e, if_neg e]
theorem q_commonOf_l9 {F : Nat} {m : jMe} : ∀ (j f i : Nat) (x y v : Int64), i + j ≤ 199 → j < f → jEu j x y v → c_X9_commonOf_l9 F m f x y (Int32.ofNat i) = some v := by
  intro j
  induction j with
  | zero =>
    intro f i x y v h0 h1 h2
    obtain ⟨f, rfl⟩ := jsucc h1
    show c_X9_commonOf_l9_b F _ m _ _ _ = _
    unfold c_X9_commonOf_l9_b
    rw [if_neg (show ¬ (200 : Int32) ≤ Int32.ofNat i from ji_len (a := 200) (by omega) (by omega) (by omega)), if_pos (show lg_cmp y 0 = 0 from jc_eq0.mpr h2.1), h2.2]
  | succ j ih =>
    intro f i x y v h0 h1 h2
    obtain ⟨f, rfl⟩ := jsucc h1
    show c_X9_commonOf_l9_b F _ m _ _ _ = _
    unfold c_X9_commonOf_l9_b
    rw [if_neg (show ¬ (200 : Int32) ≤ Int32.ofNat i from ji_len (a := 200) (by omega) (by omega) (by omega)), if_neg (show ¬ lg_cmp y 0 = 0 from fun h => h2.1 (jc_eq0.mp h)), jgd_t h2.1, show Int32.ofNat i + 1 = Int32.ofNat (i + 1) from ji_add i 1]
    exact ih f (i + 1) y (jlrem x y) v (by omega) (by omega) h2.2
theorem q_partOf {F : Nat} (hF : 1000 < F) {m : jMe} {a b : Int64} {p : Int32} (hb : b ≠ 0) {j : Nat} {v : Int64} (hj : j ≤ 128) (h : jEu j a b v) : c_X9_partOf F m a b p = some (jlo1 v a b p) := by
  unfold c_X9_partOf c_X9_commonOf c_X9_partOf_j17 jlo1
  have h1 := q_commonOf_l9 (F := F) (m := m) j F 0 a b v (by omega) (by omega) h
  have h1 : c_X9_commonOf_l9 F m F a b (0 : Int32) = _ := h1
  have hv := jEu_n0 j a b v h (Or.inr hb)
  rw [h1, jb_some, jb_some, jgd_t hv, jgd_t hv, if_neg (show ¬ lg_cmp v 0 = 0 from fun h => hv (jc_eq0.mp h)), if_neg (show ¬ lg_cmp v 0 = 0 from fun h => hv (jc_eq0.mp h))]
  by_cases e : p = 0
  · rw [if_pos e, if_pos e]
  · rw [if_neg e, if_neg e]
end YODDS
