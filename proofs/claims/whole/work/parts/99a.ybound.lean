/-! bounds of checks, as the reference tells them -/
section YBOUND
variable {F : Nat} {D : jD} {S : jTS}
theorem ji_bit {n i : Nat} (hn : n < 64) (hi : i < 8) : ((jshr (Int32.ofNat n) (Int32.ofNat i)) &&& (1 : Int32) = 0) ↔ n.testBit i = false := by
  rw [jshr_1 hn hi]
  cases n.testBit i <;> simp [jbi]
theorem y_isCheck {m : jMe} (hR : jRk D S m) (hq : jDq D < 16) {r : Nat} (hr : r < 4) : c_X10_isCheck F m 101 (Int32.ofNat r) = some (jbi ((jdC D).testBit r)) := by
  have hK := jdK_lt hq
  have hb := (jdK_bits (D := D) r hr).2
  unfold c_X10_isCheck
  rw [jgd_t hR.1.1.1, y_isIn hR.1.1 hR.1.2.1 hq (by omega), jb_some, hR.2.2, jshr_1 (by omega) (by omega)]
  cases h1 : (jDq D).testBit r with
  | false =>
    have : (jdC D).testBit r = false := by
      cases h : (jdC D).testBit r with
      | false => rfl
      | true => have := (hb.mp h).1; rw [h1] at this; cases this
    rw [this, if_pos (show jbi false = 0 from rfl)]
    rfl
  | true =>
    rw [if_neg (show ¬ jbi true = 0 by decide)]
    cases h2 : (jdK D).testBit r with
    | false =>
      have : (jdC D).testBit r = true := hb.mpr ⟨h1, by rw [h2]; decide⟩
      rw [this]
      rfl
    | true =>
      have : (jdC D).testBit r = false := by
        cases h : (jdC D).testBit r with
        | false => rfl
        | true => have := (hb.mp h).2; rw [h2] at this; exact absurd rfl this
      rw [this]
      rfl
def jyKq (D : jD) (r q : Nat) : Bool := (jdK D).testBit q || ((jdC D).testBit q && decide (q < r))
theorem y_boundOf_l4 {m : jMe} (hR : jRk D S m) (hD : jDok D) {r : Nat} (hr : r < 4) : ∀ (t q x f : Nat), q + t = 4 → t < f → x < 64 → (∀ a, x.testBit a = jun D (jyKq D r) q a) → ∃ y, c_X10_boundOf_l4 F f m 101 (Int32.ofNat r) (Int32.ofNat x) (Int32.ofNat q) = some (m, 101, Int32.ofNat r, Int32.ofNat y) ∧ y < 64 ∧ ∀ a, y.testBit a = jkn D r a := by
  have hq16 := jDok_q hD
  have hK := jdK_lt hq16
  intro t
  induction t with
  | zero =>
    intro q x f h1 h2 h3 h4
    obtain ⟨f, rfl⟩ := jsucc h2
    have hq : q = 4 := by omega
    subst hq
    refine ⟨x, ?_, h3, fun a => by rw [h4 a]; rfl⟩
    show c_X10_boundOf_l4_b F _ m _ _ _ _ = _
    unfold c_X10_boundOf_l4_b
    rw [if_pos (show (4 : Int32) ≤ Int32.ofNat 4 by decide)]
  | succ t ih =>
    intro q x f h1 h2 h3 h4
    obtain ⟨f, rfl⟩ := jsucc h2
    have hA := (hD.2.2.1 q (by omega)).2.1
    have hL := hR.1.1
    have hb := (jdK_bits (D := D) q (by omega))
    have hst : ∀ z, c_X10_boundOf_l4 F f m 101 (Int32.ofNat r) (Int32.ofNat (if jyKq D r q = true then x ||| jDa D q else x)) (Int32.ofNat (q + 1)) = z → c_X10_boundOf_l4 F (f + 1) m 101 (Int32.ofNat r) (Int32.ofNat x) (Int32.ofNat q) = z := by
      intro z h
      rw [← h]
      show c_X10_boundOf_l4_b F _ m _ _ _ _ = _
      unfold c_X10_boundOf_l4_b c_X10_boundOf_j35_l4
      simp only [jgd_t hL.1, jp_106 hL, jgd_t (jk_106 hL), jz_106 hL]
      rw [if_neg (show ¬ (4 : Int32) ≤ Int32.ofNat q from ji_len (a := 4) (by omega) (by omega) (by omega)), hR.2.2, jshr_1 (by omega) (by omega), y_isIn hL hR.1.2.1 hq16 (by omega), jb_some, jgd_t (ji_int (by omega) (by omega)), ji_n (by omega), (hR.1.2.1.2.2.2 q (by omega)).2.1, ji_or (by omega) (by omega), show (0 : Int32) = Int32.ofNat 0 from rfl, ji_or (by omega) (by omega), Nat.or_zero, show Int32.ofNat q + 1 = Int32.ofNat (q + 1) from ji_add q 1]
      unfold jyKq
      cases e1 : (jdK D).testBit q with
      | true => rw [if_pos (show jbi true = 1 from rfl), Bool.true_or, if_pos rfl]
      | false =>
        rw [if_neg (show ¬ jbi false = 1 by decide), Bool.false_or]
        have hc : (jdC D).testBit q = (jDq D).testBit q := by
          cases e2 : (jDq D).testBit q with
          | true => exact hb.2.mpr ⟨e2, by rw [e1]; decide⟩
          | false =>
            cases e3 : (jdC D).testBit q with
            | false => rfl
            | true => have := (hb.2.mp e3).1; rw [e2] at this; cases this
        rw [hc]
        cases (jDq D).testBit q with
        | false => rw [if_pos (show jbi false = Int32.ofNat 0 from rfl), Bool.false_and, if_neg (by decide)]
        | true =>
          rw [if_neg (show ¬ jbi true = Int32.ofNat 0 by decide), Bool.true_and]
          by_cases e : r ≤ q
          · rw [if_pos (ji_lep (by omega) (by omega) e), decide_eq_false (show ¬ q < r by omega), if_neg (by decide)]
          · rw [if_neg (ji_len (by omega) (by omega) e), decide_eq_true (show q < r by omega), if_pos rfl]
    obtain ⟨y, a1, a2, a3⟩ := ih (q + 1) (if jyKq D r q = true then x ||| jDa D q else x) f (by omega) (by omega) (by
      split
      · exact Nat.or_lt_two_pow (n := 6) h3 hA
      · exact h3) (fun a => by
      rw [jun_s, ← h4 a]
      by_cases e : jyKq D r q = true
      · rw [if_pos e, e, Bool.true_and, Nat.testBit_or]
      · have e' : jyKq D r q = false := by cases z : jyKq D r q with | false => rfl | true => exact absurd z e
        rw [if_neg e, e', Bool.false_and, Bool.or_false])
    exact ⟨y, hst _ a1, a2, a3⟩
theorem jDw_eq {r k x a : Nat} (hD : jDR D r) (hk : k < jDz D r) (hx : x < jDz D r) : jDw D r k a = jDw D r x a ↔ ((jDa D r).testBit a = true → jDv D r k a = jDv D r x a) := by
  have b1 := (hD.2.2.2.2 k hk).1 a
  have b2 := (hD.2.2.2.2 x hx).1 a
  unfold jDw
  cases (jDa D r).testBit a with
  | false => simp
  | true =>
    rw [if_pos rfl, if_pos rfl, ji_eq (by omega) (by omega)]
    simp
/-- whether a row is in the heap of another one -/
theorem y_boundOf_l98 {m : jMe} (hR : jRk D S m) (hD : jDok D) {r k x y : Nat} (hr : r < 4) (hk : k < jDz D r) (hx : x < jDz D r) (hy : y < 64) {most sum : Int64} : ∀ (t a f : Nat) (b : Bool), a + t = 6 → t < f → c_X10_boundOf_l98 F f m 101 (Int32.ofNat r) (Int32.ofNat y) most (Int32.ofNat k) sum (Int32.ofNat x) (jbi b) (Int32.ofNat a) = some (m, 101, Int32.ofNat r, Int32.ofNat y, most, Int32.ofNat k, sum, Int32.ofNat x, jbi (b && (List.range' a t).all fun a => !((jDa D r).testBit a && y.testBit a) || jDv D r x a == jDv D r k a)) := by
  have hDr := hD.2.2.1 r hr
  have hz := hDr.2.2.1
  intro t
  induction t with
  | zero =>
    intro a f b h1 h2
    obtain ⟨f, rfl⟩ := jsucc h2
    show c_X10_boundOf_l98_b F _ m _ _ _ _ _ _ _ _ _ = _
    unfold c_X10_boundOf_l98_b
    rw [if_pos (show (6 : Int32) ≤ Int32.ofNat a from ji_lep (a := 6) (by omega) (by omega) (by omega))]
    show some (_, _, _, _, _, _, _, _, jbi b) = some (_, _, _, _, _, _, _, _, jbi (b && true))
    rw [Bool.and_true]
  | succ t ih =>
    intro a f b h1 h2
    obtain ⟨f, rfl⟩ := jsucc h2
    have ih := fun b => ih (a + 1) f b (by omega) (by omega)
    have i0 : c_X10_boundOf_l98 F f m 101 (Int32.ofNat r) (Int32.ofNat y) most (Int32.ofNat k) sum (Int32.ofNat x) (0 : Int32) (Int32.ofNat (a + 1)) = _ := ih false
    have i1 : c_X10_boundOf_l98 F f m 101 (Int32.ofNat r) (Int32.ofNat y) most (Int32.ofNat k) sum (Int32.ofNat x) (1 : Int32) (Int32.ofNat (a + 1)) = _ := ih true
    show c_X10_boundOf_l98_b F _ m _ _ _ _ _ _ _ _ _ = _
    unfold c_X10_boundOf_l98_b
    rw [if_neg (show ¬ (6 : Int32) ≤ Int32.ofNat a from ji_len (a := 6) (by omega) (by omega) (by omega)), jshr_1 (by omega) (by omega), jgd_t hR.1.1.1, y_valD hR.1.1 hR.1.2.1 hr hk (by omega) (by omega), y_valD hR.1.1 hR.1.2.1 hr hx (by omega) (by omega), jb_some, jb_some, show Int32.ofNat a + 1 = Int32.ofNat (a + 1) from ji_add a 1, jall_s]
    dsimp only
    rw [i0, i1]
    have heq := jDw_eq (a := a) hDr hk hx
    cases b with
    | false => rfl
    | true =>
      cases y.testBit a with
      | false =>
        rw [Bool.and_false]
        rfl
      | true =>
        rw [if_neg (show ¬ jbi true = 0 by decide), if_neg (show ¬ jbi true = 0 by decide), Bool.and_true]
        by_cases e : jDw D r k a = jDw D r x a
        · have e2 := heq.mp e
          rw [if_pos e]
          cases h1 : (jDa D r).testBit a with
          | false => rfl
          | true =>
            rw [e2 h1, beq_self_eq_true]
            rfl
        · rw [if_neg e]
          have h1 : (jDa D r).testBit a = true := by
            cases h : (jDa D r).testBit a with
            | true => rfl
            | false => exact absurd (heq.mpr (fun h' => by rw [h] at h'; cases h')) e
          have h2 : ¬ jDv D r x a = jDv D r k a := fun h => e (heq.mpr (fun _ => h.symm))
          rw [h1, beq_eq_false_iff_ne.mpr h2]
          rfl
def jhq (D : jD) (r k x : Nat) : Nat := if (jpb D r x && jmg D r x (jkn D r) (jDv D r k)) = true then jwth D r x else 0
theorem jhp_e (r k : Nat) : jhp D r k = jsum (jDz D r) (jhq D r k) := rfl
theorem y_boundOf_l75 (hF : 1000 < F) (hDS : jDS D S) {r k y : Nat} (hr : r < 4) (hk : k < jDz D r) (hy : y < 64) (hyk : ∀ a, y.testBit a = jkn D r a) {most : Int64} : ∀ (t x f : Nat) (m : jMe), x + t = jDz D r → t < f → jRk D S m → ∃ m', c_X10_boundOf_l75 F f m 101 (Int32.ofNat r) (Int32.ofNat y) most (Int32.ofNat k) (Int64.ofNat (jsum x (jhq D r k))) (Int32.ofNat x) = some (m', 101, Int32.ofNat r, Int32.ofNat y, most, Int32.ofNat k, Int64.ofNat (jhp D r k)) ∧ jfx jSpp m m' ∧ jRk D S m' := by
  have hD := hDS.1
  have hDr := hD.2.2.1 r hr
  have hz := hDr.2.2.1
  intro t
  induction t with
  | zero =>
    intro x f m h1 h2 hR
    obtain ⟨f, rfl⟩ := jsucc h2
    have hx : x = jDz D r := by omega
    subst hx
    have hL := hR.1.1
    refine ⟨m, ?_, jfx.rfl, hR⟩
    show c_X10_boundOf_l75_b F _ m _ _ _ _ _ _ _ = _
    unfold c_X10_boundOf_l75_b
    rw [jgd_t hL.1, jp_107 hL, jgd_t (jk_107 hL), jz_107 hL, jgd_t (ji_int (by omega) hr), ji_n (by omega), (hR.1.2.1.2.2.2 r hr).2.2.1, if_pos (ji_lep (by omega) (by omega) (Nat.le_refl _))]
    rfl
  | succ t ih =>
    intro x f m h1 h2 hR
    obtain ⟨f, rfl⟩ := jsucc h2
    have hx : x < jDz D r := by omega
    have hL := hR.1.1
    obtain ⟨m1, b1, b2, b3⟩ := y_isPassing (F := F) hF hDS hr hx hR.1
    have hR1 := jRk_p b2 hR b3
    have hL1 := hR1.1.1
    obtain ⟨m', a1, a2, a3⟩ := ih (x + 1) f m1 (by omega) (by omega) hR1
    refine ⟨m', ?_, b2.trans a2, a3⟩
    show c_X10_boundOf_l75_b F _ m _ _ _ _ _ _ _ = _
    unfold c_X10_boundOf_l75_b
    have h98 := y_boundOf_l98 (F := F) hR1 hD hr hk hx hy (most := most) (sum := Int64.ofNat (jsum x (jhq D r k))) 6 0 F (jpb D r x) (by omega) (by omega)
    have hall : ((List.range' 0 6).all fun a => !((jDa D r).testBit a && y.testBit a) || jDv D r x a == jDv D r k a) = jmg D r x (jkn D r) (jDv D r k) := by
      unfold jmg
      rw [List.range_eq_range']
      simp only [hyk]
    rw [hall] at h98
    have h98 : c_X10_boundOf_l98 F F m1 101 (Int32.ofNat r) (Int32.ofNat y) most (Int32.ofNat k) (Int64.ofNat (jsum x (jhq D r k))) (Int32.ofNat x) (jbi (jpb D r x)) (0 : Int32) = _ := h98
    rw [jgd_t hL.1, jp_107 hL, jgd_t (jk_107 hL), jz_107 hL, jgd_t (ji_int (by omega) hr), ji_n (by omega), (hR.1.2.1.2.2.2 r hr).2.2.1, if_neg (ji_len (by omega) (by omega) (by omega)), b1, jb_some]
    dsimp only
    rw [h98, jb_some]
    dsimp only
    rw [jgd_t hL1.1, y_worthOf hL1 hR1.1.2.1 hr hDr hx, jb_some, show (0 : Int64) = Int64.ofNat 0 from rfl, jq_add, jq_add, show Int32.ofNat x + 1 = Int32.ofNat (x + 1) from ji_add x 1]
    have hq1 : jhq D r k x = if (jpb D r x && jmg D r x (jkn D r) (jDv D r k)) = true then jwth D r x else 0 := rfl
    rw [jsum_s, hq1] at a1
    cases hb : (jpb D r x && jmg D r x (jkn D r) (jDv D r k)) with
    | true =>
      rw [hb, if_pos rfl] at a1
      rw [if_neg (show ¬ jbi true = 0 by decide)]
      exact a1
    | false =>
      rw [hb, if_neg (by decide)] at a1
      rw [if_pos (show jbi false = 0 from rfl)]
      exact a1
def jhr (D : jD) (r k : Nat) : Nat := if jpb D r k = true then jhp D r k else 0
theorem y_boundOf_l58 (hF : 1000 < F) (hDS : jDS D S) {r y : Nat} (hr : r < 4) (hy : y < 64) (hyk : ∀ a, y.testBit a = jkn D r a) : ∀ (t k f : Nat) (m : jMe), k + t = jDz D r → t < f → jRk D S m → ∃ m', c_X10_boundOf_l58 F f m 101 (Int32.ofNat r) (Int32.ofNat y) (Int64.ofNat (jmx k (jhr D r))) (Int32.ofNat k) = some (m', Int64.ofNat (jmx (jDz D r) (jhr D r))) ∧ jfx jSpp m m' ∧ jRk D S m' := by
  have hD := hDS.1
  have hDr := hD.2.2.1 r hr
  have hz := hDr.2.2.1
  have hle : ∀ k, jhr D r k ≤ 32000000000 := fun k => by
    unfold jhr
    split
    · exact jhp_le hDr
    · omega
  intro t
  induction t with
  | zero =>
    intro k f m h1 h2 hR
    obtain ⟨f, rfl⟩ := jsucc h2
    have hk : k = jDz D r := by omega
    subst hk
    have hL := hR.1.1
    refine ⟨m, ?_, jfx.rfl, hR⟩
    show c_X10_boundOf_l58_b F _ m _ _ _ _ _ = _
    unfold c_X10_boundOf_l58_b
    rw [jgd_t hL.1, jp_107 hL, jgd_t (jk_107 hL), jz_107 hL, jgd_t (ji_int (by omega) hr), ji_n (by omega), (hR.1.2.1.2.2.2 r hr).2.2.1, if_pos (ji_lep (by omega) (by omega) (Nat.le_refl _))]
  | succ t ih =>
    intro k f m h1 h2 hR
    obtain ⟨f, rfl⟩ := jsucc h2
    have hk : k < jDz D r := by omega
    have hL := hR.1.1
    obtain ⟨m1, b1, b2, b3⟩ := y_boundOf_l75 (F := F) hF hDS hr hk hy hyk (most := Int64.ofNat (jmx k (jhr D r))) (jDz D r) 0 F m (by omega) (by omega) hR
    obtain ⟨m2, c1, c2, c3⟩ := y_isPassing (F := F) hF hDS hr hk b3.1
    have hR2 := jRk_p c2 b3 c3
    obtain ⟨m', a1, a2, a3⟩ := ih (k + 1) f m2 (by omega) (by omega) hR2
    refine ⟨m', ?_, (b2.trans c2).trans a2, a3⟩
    show c_X10_boundOf_l58_b F _ m _ _ _ _ _ = _
    unfold c_X10_boundOf_l58_b
    have b1 : c_X10_boundOf_l75 F F m 101 (Int32.ofNat r) (Int32.ofNat y) (Int64.ofNat (jmx k (jhr D r))) (Int32.ofNat k) (0 : Int64) (0 : Int32) = _ := b1
    rw [jgd_t hL.1, jp_107 hL, jgd_t (jk_107 hL), jz_107 hL, jgd_t (ji_int (by omega) hr), ji_n (by omega), (hR.1.2.1.2.2.2 r hr).2.2.1, if_neg (ji_len (by omega) (by omega) (by omega)), b1, jb_some]
    dsimp only
    rw [jgd_t b3.1.1.1, c1, jb_some, show Int32.ofNat k + 1 = Int32.ofNat (k + 1) from ji_add k 1]
    have hs : jmx (k + 1) (jhr D r) = max (jmx k (jhr D r)) (jhr D r k) := rfl
    have hk1 : jmx k (jhr D r) ≤ 32000000000 := jmx_le (fun i _ => hle i)
    have hk2 := jhp_le (k := k) hDr
    rw [hs] at a1
    cases hp : jpb D r k with
    | false =>
      rw [if_pos (show jbi false = 0 from rfl)]
      have : jhr D r k = 0 := by unfold jhr; rw [hp, if_neg (by decide)]
      rw [this, Nat.max_eq_left (Nat.zero_le _)] at a1
      exact a1
    | true =>
      rw [if_neg (show ¬ jbi true = 0 by decide)]
      have : jhr D r k = jhp D r k := by unfold jhr; rw [hp, if_pos rfl]
      rw [this] at a1
      by_cases e : jhp D r k ≤ jmx k (jhr D r)
      · rw [if_pos (jc_le0.mpr ((jq_le (by unfold jMX; omega) (by unfold jMX; omega)).mpr e))]
        rw [Nat.max_eq_left e] at a1
        exact a1
      · rw [if_neg (fun h => e ((jq_le (by unfold jMX; omega) (by unfold jMX; omega)).mp (jc_le0.mp h)))]
        rw [Nat.max_eq_right (by omega)] at a1
        exact a1
theorem jmx_ge {f : Nat → Nat} : ∀ {n i : Nat}, i < n → f i ≤ jmx n f := by
  intro n
  induction n with
  | zero => intro i h; omega
  | succ n ih =>
    intro i h
    show f i ≤ max (jmx n f) (f n)
    by_cases e : i = n
    · subst e; exact Nat.le_max_right _ _
    · exact Nat.le_trans (ih (by omega)) (Nat.le_max_left _ _)
/-- rows that don't pass needn't be asked: their heaps are others' -/
theorem jmx_hr {r : Nat} : jmx (jDz D r) (jhr D r) = jbd D r := by
  apply Nat.le_antisymm
  · refine jmx_le (fun k hk => ?_)
    unfold jhr
    split
    · exact jmx_ge hk
    · omega
  · refine jmx_le (fun k hk => ?_)
    by_cases h0 : jhp D r k = 0
    · omega
    · have : ∃ x, x < jDz D r ∧ jhq D r k x ≠ 0 := by
        cases Classical.em (∃ x, x < jDz D r ∧ jhq D r k x ≠ 0) with
        | inl h => exact h
        | inr h =>
          exfalso
          apply h0
          rw [jhp_e]
          refine jsum_z (fun i hi => ?_)
          rcases Nat.eq_zero_or_pos (jhq D r k i) with z | z
          · exact z
          · exact absurd ⟨i, hi, by omega⟩ h
      obtain ⟨x, hx, hne⟩ := this
      unfold jhq at hne
      split at hne
      · rename_i hh
        rw [Bool.and_eq_true] at hh
        have heq : jhp D r k = jhp D r x := by
          rw [jhp_e, jhp_e]
          refine jsum_c (fun i _ => ?_)
          unfold jhq
          have : jmg D r i (jkn D r) (jDv D r k) = jmg D r i (jkn D r) (jDv D r x) := by
            rw [Bool.eq_iff_iff, jmg_iff, jmg_iff]
            have h2 := jmg_iff.mp hh.2
            constructor
            · intro h a ha h3 h4
              rw [h a ha h3 h4, h2 a ha h3 h4]
            · intro h a ha h3 h4
              rw [h a ha h3 h4, ← h2 a ha h3 h4]
          rw [this]
        have hr : jhr D r x = jhp D r x := by unfold jhr; rw [if_pos hh.1]
        rw [heq, ← hr]
        exact jmx_ge hx
      · exact absurd rfl hne
theorem y_boundOf (hF : 1000 < F) (hDS : jDS D S) {r : Nat} (hr : r < 4) {m : jMe} (hR : jRk D S m) : ∃ m', c_X10_boundOf F m 101 (Int32.ofNat r) = some (Int64.ofNat (jbd D r), m') ∧ jfx jSpp m m' ∧ jRk D S m' := by
  have hz := (hDS.1.2.2.1 r hr).2.2.1
  obtain ⟨y, a1, a2, a3⟩ := y_boundOf_l4 (F := F) hR hDS.1 hr 4 0 0 F (by omega) (by omega) (by omega) (fun a => by rw [Nat.zero_testBit]; rfl)
  obtain ⟨m', b1, b2, b3⟩ := y_boundOf_l58 (F := F) hF hDS hr a2 a3 (jDz D r) 0 F m (by omega) (by omega) hR
  rw [jmx_hr] at b1
  refine ⟨m', ?_, b2, b3⟩
  unfold c_X10_boundOf
  have a1 : c_X10_boundOf_l4 F F m 101 (Int32.ofNat r) (0 : Int32) (0 : Int32) = _ := a1
  have b1 : c_X10_boundOf_l58 F F m 101 (Int32.ofNat r) (Int32.ofNat y) (0 : Int64) (0 : Int32) = _ := b1
  rw [a1, jb_some]
  dsimp only
  rw [b1, jb_some]
end YBOUND
