/-! draw, shape, worth, told, about, as the reference tells them -/
section YABOUT
variable {F : Nat} {D : jD} {S : jTS}
theorem y_draw (hF : 1000 < F) (hDS : jDS D S) {g : Bool} (hg : g = true ↔ jGt D) {m : jMe} (hQ : jyQ D S m) {x1 x2 : Int32} : ∃ m', c_X10_draw F m 101 x1 x2 = some (if jbt2 x2 0 1 = true then (if jDq D = 0 then -3 else if g = true then -5 else if jsp D 4 = 0 then -3 else if x2 = 1 then Int32.ofNat (jdraw D x1).2 else jdgo D (jdraw D x1).1) else -2, m') ∧ jfx jyO m m' ∧ jyQ D S m' := by
  have hD := hDS.1
  have hL := hQ.1.1
  have hq16 := jDok_q hD
  unfold c_X10_draw c_X10_draw_j43
  rw [show c_X10_in F m (Int32.toInt64 x2) (0 : Int64) (1 : Int64) = some (jbi (jbt2 x2 0 1)) from q_in_int (lo := 0) (hi := 1) (by omega) (by omega), jb_some]
  cases e1 : jbt2 x2 0 1 with
  | false => exact ⟨m, rfl, jfx.rfl, hQ⟩
  | true =>
    rw [if_neg (show ¬ jbi true = 0 by decide), if_pos rfl, jgd_t hL.1, hQ.1.2.1.2.2.1]
    by_cases hq0 : jDq D = 0
    · rw [if_pos ((jDq_0 hD).mpr hq0), if_pos hq0]
      exact ⟨m, rfl, jfx.rfl, hQ⟩
    rw [if_neg (fun h => hq0 ((jDq_0 hD).mp h)), if_neg hq0]
    obtain ⟨m1, a1, a2, a3, a4, a5⟩ := y_reck (F := F) hF hDS hg hQ
    rw [a1, jb_some, jgd_t a4.1.1.1, a5, jgd_t a4.1.1.1]
    cases hgg : g with
    | true => exact ⟨m1, rfl, a2, a4⟩
    | false =>
      have hY := jYg_of a3 (fun h => by have := hg.mpr h; rw [hgg] at this; cases this)
      have hs := hY.2.2.2.2.1
      have hsm := hY.2.2.2.2.2.1
      rw [if_pos (show jbi false = 0 from rfl), if_pos (show jbi false = 0 from rfl), if_neg (show ¬ false = true by decide), hs]
      by_cases h0 : jsp D 4 = 0
      · rw [if_pos (show lg_cmp (Int64.ofNat (jsp D 4)) 0 = 0 from jc_eq0.mpr (by rw [h0]; rfl)), if_pos h0]
        exact ⟨m1, rfl, a2, a4⟩
      rw [if_neg (show ¬ lg_cmp (Int64.ofNat (jsp D 4)) 0 = 0 from fun h => h0 ((jq_eq hsm (by omega)).mp (jc_eq0.mp h))), if_neg h0]
      obtain ⟨m2, b1, b2, b3, b4, b5⟩ := y_isDrawn (F := F) hF hDS hq0 hY (z := x1)
      have hQ2 : jyQ D S m2 := jyQ_fx b2 (by unfold jSpp; omega) b3.1.1 a4
      have f2 : jfx jyO m m2 := a2.trans (b2.weak (fun a i h => by unfold jyO; unfold jSpp at h; omega))
      rw [b1, jb_some]
      dsimp only
      by_cases e2 : x2 = 1
      · rw [if_pos e2, if_pos e2, jgd_t hQ2.1.1.1, b4]
        exact ⟨m2, rfl, f2, hQ2⟩
      · rw [if_neg e2, if_neg e2]
        cases ho : (jdraw D x1).1 with
        | none => exact ⟨m2, rfl, f2, hQ2⟩
        | some R =>
          rw [if_neg (show ¬ jbi (some R).isSome = 0 from by show ¬ jbi true = 0; decide), jgd_t hQ2.1.1.1, y_digitsNow (by omega) hQ2.1 hq16 (b5 R ho), jb_some]
          exact ⟨m2, rfl, f2, hQ2⟩
theorem jdC_and (hq : jDq D < 16) : Int32.ofNat (jDq D) &&& (Int32.ofNat (jdK D) ^^^ (-1 : Int32)) = Int32.ofNat (jdC D) := by
  have h : ∀ q : Fin 16, ∀ k : Fin 16, Int32.ofNat q.1 &&& (Int32.ofNat k.1 ^^^ (-1 : Int32)) = Int32.ofNat (q.1 &&& (15 ^^^ k.1)) := by decide +kernel
  have hK := jdK_lt hq
  have hC := jdC_lt (D := D)
  have h1 := h ⟨jDq D, hq⟩ ⟨jdK D, hK⟩
  dsimp only at h1
  rw [h1]
  congr 1
  refine Nat.eq_of_testBit_eq (fun i => ?_)
  rw [Nat.testBit_and, Nat.testBit_xor]
  by_cases hi : i < 4
  · have h15 : Nat.testBit 15 i = true := by
      have : ∀ i : Fin 4, Nat.testBit 15 i.1 = true := by decide
      exact this ⟨i, hi⟩
    have hb := (jdK_bits (D := D) i hi).2
    rw [h15]
    cases e1 : (jdC D).testBit i <;> cases e2 : (jDq D).testBit i <;> cases e3 : (jdK D).testBit i <;> rw [e1, e2, e3] at hb <;> simp at hb ⊢
  · have hp : 2 ^ 4 ≤ 2 ^ i := Nat.pow_le_pow_right (by omega) (by omega)
    rw [Nat.testBit_lt_two_pow (show jDq D < 2 ^ i by omega), Nat.testBit_lt_two_pow (show jdC D < 2 ^ i by omega)]
    rfl
def jshp (D : jD) (g : Bool) (k : Nat) : Int32 := if k = 0 then Int32.ofNat (jdK D) else if k = 1 then Int32.ofNat (jdC D) else if k = 2 then jo1 (jrt D) else if k = 3 then jbi g else Int32.ofNat (jatn D 4)
theorem y_shape (hF : 1000 < F) (hDS : jDS D S) {g : Bool} (hg : g = true ↔ jGt D) {m : jMe} (hQ : jyQ D S m) {x1 : Int32} : ∃ m', c_X10_shape F m 101 x1 = some (if jbt2 x1 0 4 = true then (if jDq D = 0 then -3 else jshp D g x1.toNatClampNeg) else -2, m') ∧ jfx jyO m m' ∧ jyQ D S m' := by
  have hD := hDS.1
  have hL := hQ.1.1
  have hq16 := jDok_q hD
  unfold c_X10_shape
  rw [show c_X10_in F m (Int32.toInt64 x1) (0 : Int64) (4 : Int64) = some (jbi (jbt2 x1 0 4)) from q_in_int (lo := 0) (hi := 4) (by omega) (by omega), jb_some]
  cases e1 : jbt2 x1 0 4 with
  | false => exact ⟨m, rfl, jfx.rfl, hQ⟩
  | true =>
    obtain ⟨k, rfl, hk, _, hk4⟩ := jbt2_nat e1
    rw [if_neg (show ¬ jbi true = 0 by decide), if_pos rfl, jgd_t hL.1, hQ.1.2.1.2.2.1, ji_n hk]
    by_cases hq0 : jDq D = 0
    · rw [if_pos ((jDq_0 hD).mpr hq0), if_pos hq0]
      exact ⟨m, rfl, jfx.rfl, hQ⟩
    rw [if_neg (fun h => hq0 ((jDq_0 hD).mp h)), if_neg hq0]
    obtain ⟨m1, a1, a2, a3, a4, a5⟩ := y_reck (F := F) hF hDS hg hQ
    obtain ⟨root, hT, hrt, hr4, hro⟩ := jtree0 hD
    rw [if_neg hq0] at hrt
    refine ⟨m1, ?_, a2, a4⟩
    unfold jshp
    rw [a1, jb_some, jgd_t a4.1.1.1, jgd_t a4.1.1.1, jgd_t a4.1.1.1, jgd_t a4.1.1.1, jgd_t a4.1.1.1, a3.1.2.2, a4.1.2.1.2.2.1, jdC_and hq16, a3.1.2.1.2.1 root hrt, a5, y_attributesNow (by omega) a4.1 hD, jb_some, hrt]
    rcases (by omega : k = 0 ∨ k = 1 ∨ k = 2 ∨ k = 3 ∨ k = 4) with rfl | rfl | rfl | rfl | rfl
    · rfl
    · rfl
    · rfl
    · cases g <;> rfl
    · rfl
def jwrt (D : jD) (x1 x2 : Int32) : Int64 := if jrow D x1 x2 = true then Int64.ofNat (jwth D x1.toNatClampNeg x2.toNatClampNeg) else -4611686018427387904
theorem y_worth (hD : jDok D) {m : jMe} (hQ : jyQ D S m) {x1 x2 : Int32} : c_X10_worth F m 101 x1 x2 = some (jwrt D x1 x2) := by
  have hL := hQ.1.1
  unfold c_X10_worth jwrt
  rw [jgd_t hL.1, y_isRow hL hQ.1.2.1 hD, jb_some]
  cases e1 : jrow D x1 x2 with
  | false => rfl
  | true =>
    obtain ⟨r, k, rfl, rfl, hr, hk, hr2, hk2⟩ := jrow_nat e1
    have hr4 : r < 4 := Nat.lt_of_lt_of_le hr hD.1
    rw [if_neg (show ¬ jbi true = 0 by decide), if_pos rfl, y_worthOf hL hQ.1.2.1 hr4 (hD.2.2.1 r hr4) hk, jb_some, ji_n hr2, ji_n hk2]
def jtld (D : jD) (r k d : Nat) : Int32 := if d = 3 then Int32.ofNat (jDc D r k) else if d = 4 then jbi ((jDl D r).testBit k) else if d = 5 then jbi (jpb D r k) else match jatt (jDa D r) d with
  | none => -1
  | some a => jDw D r k a
theorem jatg_6 {s : Nat} : ∀ (t a n x : Nat), jatg s t a n = some x → x < a + t := by
  intro t
  induction t with
  | zero => intro a n x h; cases h
  | succ t ih =>
    intro a n x h
    unfold jatg at h
    by_cases e : s.testBit a = true
    · rw [if_pos e] at h
      cases n with
      | zero => cases h; omega
      | succ n => have := ih _ _ _ h; omega
    · rw [if_neg e] at h
      have := ih _ _ _ h
      omega
theorem y_told5 (hF : 1000 < F) (hDS : jDS D S) {m : jMe} (hQ : jyQ D S m) {x1 x2 x3 : Int32} : ∃ m', c_X10_told F m 101 x1 x2 x3 = some (if (jrow D x1 x2 && jbt2 x3 0 5) = true then jtld D x1.toNatClampNeg x2.toNatClampNeg x3.toNatClampNeg else -2, m') ∧ jfx jyO m m' ∧ jyQ D S m' := by
  have hD := hDS.1
  have hL := hQ.1.1
  unfold c_X10_told
  rw [jgd_t hL.1, y_isRow hL hQ.1.2.1 hD, jb_some]
  cases e1 : jrow D x1 x2 with
  | false => exact ⟨m, rfl, jfx.rfl, hQ⟩
  | true =>
    obtain ⟨r, k, rfl, rfl, hr, hk, hr2, hk2⟩ := jrow_nat e1
    have hr4 : r < 4 := Nat.lt_of_lt_of_le hr hD.1
    have hz := (hD.2.2.1 r hr4).2.2.1
    rw [if_neg (show ¬ jbi true = 0 by decide), show c_X10_in F m (Int32.toInt64 x3) (0 : Int64) (5 : Int64) = some (jbi (jbt2 x3 0 5)) from q_in_int (lo := 0) (hi := 5) (by omega) (by omega), jb_some, ji_n hr2, ji_n hk2, Bool.true_and]
    cases e2 : jbt2 x3 0 5 with
    | false => exact ⟨m, rfl, jfx.rfl, hQ⟩
    | true =>
      obtain ⟨d, rfl, hd, _, hd5⟩ := jbt2_nat e2
      obtain ⟨c1, c2, c3, c4⟩ := hQ.1.2.1.2.2.2 r hr4
      rw [if_neg (show ¬ jbi true = 0 by decide), if_pos rfl, ji_n hd, jp_109 hL, jgd_t (jk_109 hL), jz_109 hL, jp_110 hL, jgd_t (jk_110 hL), jz_110 hL, show (8 : Int32) = Int32.ofNat 8 from rfl, ji_mul, ji_add, jgd_t (ji_int (by omega) (by omega)), jgd_t (ji_int (by omega) (by omega)), ji_n (by omega), (c4 k hk).2.1, (c4 k hk).2.2]
      unfold jtld
      by_cases h3 : 3 ≤ d
      · rw [if_pos (show (3 : Int32) ≤ Int32.ofNat d from ji_lep (a := 3) (by omega) (by omega) h3)]
        rcases (by omega : d = 3 ∨ d = 4 ∨ d = 5) with rfl | rfl | rfl
        · exact ⟨m, rfl, jfx.rfl, hQ⟩
        · refine ⟨m, ?_, jfx.rfl, hQ⟩
          rw [if_neg (show ¬ Int32.ofNat 4 = 3 by decide), if_pos (show Int32.ofNat 4 = 4 from rfl), if_neg (show ¬ 4 = 3 by decide), if_pos rfl]
          cases (jDl D r).testBit k <;> rfl
        · obtain ⟨m1, a1, a2, a3⟩ := y_isPassing (F := F) hF hDS hr4 hk hQ.1
          refine ⟨m1, ?_, a2.weak (fun a i h => jyO_spp h), jyQ_fx a2 (by unfold jSpp; omega) a3 hQ⟩
          rw [if_neg (show ¬ Int32.ofNat 5 = 3 by decide), if_neg (show ¬ Int32.ofNat 5 = 4 by decide), if_neg (show ¬ 5 = 3 by decide), if_neg (show ¬ 5 = 4 by decide), if_pos rfl, a1, jb_some]
          cases jpb D r k <;> rfl
      · refine ⟨m, ?_, jfx.rfl, hQ⟩
        rw [if_neg (show ¬ (3 : Int32) ≤ Int32.ofNat d from ji_len (a := 3) (by omega) (by omega) h3), y_attribute (by omega) hL hQ.1.2.1 hD hr4 (by omega), jb_some, jb_some, if_neg (show ¬ d = 3 by omega), if_neg (show ¬ d = 4 by omega), if_neg (show ¬ d = 5 by omega)]
        cases ha : jatt (jDa D r) d with
        | none => rfl
        | some a =>
          have ha6 := jatg_6 6 0 d a ha
          have ne : ¬ jo1 (some a) = -1 := by
            have : ∀ a : Fin 6, ¬ Int32.ofNat a.1 = (-1 : Int32) := by decide
            exact this ⟨a, by omega⟩
          rw [if_neg ne, show jo1 (some a) = Int32.ofNat a from rfl, y_valD hL hQ.1.2.1 hr4 hk (by omega) (by omega), jb_some]
end YABOUT
