/-! rows in no answer -/
/-- DANGLING, as bits -/
def jdl1 (D : jD) (r k : Nat) : Bool := jpb D r k && decide (Int64.ofNat (jct D (jfr1 r k)) = 0)
section UNUSED
variable {F b : Nat} {D : jD}
theorem q_unused_l9 {m : jMe} {r : Nat} (hr : r < 4) (hqr : (jDq D).testBit r = true) (hI : jIn D b m) (hp : jI m (b + 11) r = Int32.ofNat (jpw D r)) (hty : jTly D b m) : ∀ (t k f : Nat), k + t = jDz D r → t < f → c_X2_unused_l9 F f m b (Int32.ofNat r) (Int32.ofNat (jbw k (jdl1 D r))) (Int32.ofNat k) = some (m, Int32.ofNat (jbw (jDz D r) (jdl1 D r))) := by
  obtain ⟨r1, r2⟩ := hI.2.2.1.2.2 r hr
  have hz := (hI.2.2.2.2.2 r hr).2.2.1
  have hus := hI.1.2.2.2.2.2.2.2.2.2.2.2.2.2.1
  have hpa := hI.1.2.2.2.2.2.2.2.2.2.2.2.2.2.2.2.1
  intro t
  induction t with
  | zero =>
    intro k f h1 h2
    obtain ⟨f, rfl⟩ := jsucc h2
    have hk : k = jDz D r := by omega
    subst hk
    show c_X2_unused_l9_b F _ m _ _ _ _ = _
    unfold c_X2_unused_l9_b
    rw [jgd_t hI.1.1, hI.2.1, jgd_t hI.2.2.1.1, hI.2.2.1.2.1, jgd_t (ji_int (by omega) hr), ji_n (by omega), r1, jgd_t r2.1, (hI.2.2.2.2.1 r hr).2.2.2.1, if_pos (ji_lep (by omega) (by omega) (by omega))]
  | succ t ih =>
    intro k f h1 h2
    obtain ⟨f, rfl⟩ := jsucc h2
    have hk : k < jDz D r := by omega
    have hu := hty.2 r k hr (by omega)
    rw [if_pos hqr] at hu
    have ih := ih (k + 1) f (by omega) (by omega)
    have hb : jbw (k + 1) (jdl1 D r) = jbw k (jdl1 D r) ||| (if jdl1 D r k = true then 2 ^ k else 0) := rfl
    have hbl := jbw_lt (n := k) (p := jdl1 D r)
    have h8 := jp2 (i := k) (j := 7) (by omega)
    have hd : jdl1 D r k = (jpb D r k && decide (Int64.ofNat (jct D (jfr1 r k)) = 0)) := rfl
    have hst : ∀ z, (if jbi (jpb D r k) = 0 then c_X2_unused_l9 F f m b (Int32.ofNat r) (Int32.ofNat (jbw k (jdl1 D r)) ||| 0) (Int32.ofNat (k + 1)) else (if (lg_cmp (Int64.ofNat (jct D (jfr1 r k))) (0 : Int64)) = 0 then c_X2_unused_l9 F f m b (Int32.ofNat r) (Int32.ofNat (jbw k (jdl1 D r) ||| 2 ^ k)) (Int32.ofNat (k + 1)) else c_X2_unused_l9 F f m b (Int32.ofNat r) (Int32.ofNat (jbw k (jdl1 D r)) ||| 0) (Int32.ofNat (k + 1)))) = z → c_X2_unused_l9 F (f + 1) m b (Int32.ofNat r) (Int32.ofNat (jbw k (jdl1 D r))) (Int32.ofNat k) = z := by
      intro z h
      rw [← h]
      show c_X2_unused_l9_b F _ m _ _ _ _ = _
      unfold c_X2_unused_l9_b
      rw [jgd_t hI.1.1, hI.2.1, jgd_t hI.2.2.1.1, hI.2.2.1.2.1, jgd_t (ji_int (by omega) hr), ji_n (by omega), r1, jgd_t r2.1, (hI.2.2.2.2.1 r hr).2.2.2.1, if_neg (ji_len (by omega) (by omega) (by omega)), hI.1.2.2.2.2.2.2.2.1, jgd_t hpa.1, hpa.2, jgd_t (ji_int (by omega) hr), hp, q_isIn (by omega) (by have := jpw_lt (D := D) (r := r); omega), jb_some, jpw_bit (hI.2.2.2.2.2 r hr), hI.1.2.2.2.2.2.1, jgd_t hus.1, hus.2, jl_8, ji_mul, ji_add, jgd_t (ji_int (by omega) (by omega)), ji_n (by omega), hu, jset_or (by omega) (by omega), show Int32.ofNat k + 1 = Int32.ofNat (k + 1) from ji_add k 1]
    refine hst _ ?_
    cases e1 : jpb D r k with
    | false =>
      rw [e1, Bool.false_and] at hd
      rw [hd, if_neg (by decide), Nat.or_zero] at hb
      rw [if_pos (by decide), Int32.or_zero, ← hb]
      exact ih
    | true =>
      rw [e1, Bool.true_and] at hd
      rw [if_neg (by decide)]
      by_cases e2 : Int64.ofNat (jct D (jfr1 r k)) = 0
      · rw [decide_eq_true e2] at hd
        rw [hd, if_pos rfl] at hb
        rw [if_pos (jc_eq0.mpr e2), ← hb]
        exact ih
      · rw [decide_eq_false e2] at hd
        rw [hd, if_neg (by decide), Nat.or_zero] at hb
        rw [if_neg (fun h => e2 (jc_eq0.mp h)), Int32.or_zero, ← hb]
        exact ih
theorem q_unused (hF : 2000 < F) (hq16 : jDq D < 16) {r : Nat} (hr : r < 4) (hqr : (jDq D).testBit r = true) {m : jMe} (hJ : jJ D b m) (ht : jI m b 14 = 0 ∨ (jI m b 14 = 1 ∧ jTly D b m)) : ∃ m', c_X2_unused F m b (Int32.ofNat r) = some (Int32.ofNat (jbw (jDz D r) (jdl1 D r)), m') ∧ jfr (jSty b) m m' ∧ (∀ j, j ≠ 14 → jI m' b j = jI m b j) ∧ jJ D b m' ∧ jI m' b 14 = 1 ∧ jTly D b m' := by
  obtain ⟨m1, a1, a2, a3, a4, a5, a6, a7⟩ := q_tally hF hq16 hJ ht
  have hz := (hJ.1.2.2.2.2.2 r hr).2.2.1
  have h := q_unused_l9 (F := F) hr hqr a5.1 (by rw [a5.2.2.2.1 r hr, if_pos hqr]) a7 (jDz D r) 0 F (by omega) (by omega)
  refine ⟨m1, ?_, a2, a3, a5, a6, a7⟩
  unfold c_X2_unused
  have h : c_X2_unused_l9 F F m1 b (Int32.ofNat r) (0 : Int32) (0 : Int32) = _ := h
  rw [jgd_t hJ.1.1.1, a1, jb_some, h, jb_some]
theorem q_countWith (hF : 2000 < F) (hq16 : jDq D < 16) {a v : Nat} (ha : a < 6) (hv : v < 10) {m : jMe} (hJ : jJ D b m) (ht : jI m b 14 = 0 ∨ (jI m b 14 = 1 ∧ jTly D b m)) : ∃ m', c_X2_countWith F m b (Int32.ofNat a) (Int32.ofNat v) = some (Int64.ofNat (jcw D a v), m') ∧ jfr (jSty b) m m' ∧ (∀ j, j ≠ 14 → jI m' b j = jI m b j) ∧ jJ D b m' ∧ jI m' b 14 = 1 ∧ jTly D b m' := by
  obtain ⟨m1, a1, a2, a3, a4, a5, a6, a7⟩ := q_tally hF hq16 hJ ht
  have h := q_countWith_l13 (F := F) (by omega) hq16 ha hv a5.1 a5.2.2.1 a7 4 0 F (by omega) (by omega)
  refine ⟨m1, ?_, a2, a3, a5, a6, a7⟩
  unfold c_X2_countWith
  have h : c_X2_countWith_l13 F F m1 b (Int32.ofNat a) (Int32.ofNat v) (0 : Int64) (0 : Int32) (0 : Int32) = _ := h
  rw [jgd_t hJ.1.1.1, a1, jb_some, h, jb_some]
  rfl
end UNUSED
