/-! odds, values, likeliest, dangling, answers, as the reference tells them -/
section YMORE
variable {F : Nat} {D : jD} {S : jTS}
theorem y_told (hF : 1000 < F) (hDS : jDS D S) {g : Bool} (hg : g = true ↔ jGt D) {m : jMe} (hQ : jyQ D S m) : ((jDq D ≠ 0 ∧ g = false) ∧ ∃ m', c_X10_isTold F m 101 = some (1, m') ∧ jfx jyO m m' ∧ jYg D S m' ∧ jyQ D S m') ∨ (¬ (jDq D ≠ 0 ∧ g = false) ∧ ∃ m', c_X10_isTold F m 101 = some (0, m') ∧ jfx jyO m m' ∧ jYJ D S m' ∧ jyQ D S m') := by
  obtain ⟨m', a1, a2, a3, a4⟩ := y_isTold (F := F) hF hDS hg hQ
  by_cases e : jDq D ≠ 0 ∧ g = false
  · refine Or.inl ⟨e, m', ?_, a2, jYg_of a3 (fun h => by have := hg.mpr h; rw [e.2] at this; cases this), a4⟩
    rw [a1, decide_eq_false e.1, e.2]
    rfl
  · refine Or.inr ⟨e, m', ?_, a2, a3, a4⟩
    rw [a1]
    by_cases e0 : jDq D = 0
    · rw [decide_eq_true e0]
      rfl
    · have : g = true := by cases g with | true => rfl | false => exact absurd ⟨e0, rfl⟩ e
      rw [decide_eq_false e0, this]
      rfl
/-- Euclid's turns -/
def jeuf : Nat → Int64 → Int64 → Int64
  | 0, x, _ => x
  | t + 1, x, y => if y = 0 then x else jeuf t y (jlrem x y)
theorem jeuf_e : ∀ (j t : Nat) (x y v : Int64), j ≤ t → jEu j x y v → jeuf t x y = v := by
  intro j
  induction j with
  | zero =>
    intro t x y v _ h
    cases t with
    | zero => exact h.2.symm
    | succ t => rw [jeuf, if_pos h.1, h.2]
  | succ j ih =>
    intro t x y v h1 h
    cases t with
    | zero => omega
    | succ t =>
      rw [jeuf, if_neg h.1]
      exact ih t _ _ v (by omega) h.2
theorem jeuf_get (x y : Int64) : ∃ j, j ≤ 128 ∧ jEu j x y (jeuf 128 x y) := by
  obtain ⟨j, v, h1, h2⟩ := jEu_get x y
  exact ⟨j, h1, by rw [jeuf_e j 128 x y v h1 h2]; exact h2⟩
/-- odds of a row, in lowest terms -/
def jodds (D : jD) (x1 x2 x3 : Int32) : Int64 := if (jrow D x1 x2 && (jbt2 x3 0 1 && (jDq D).testBit x1.toNatClampNeg)) = true ∧ Int64.ofNat (jct D jf1) ≠ 0 then jlo1 (jeuf 128 (Int64.ofNat (jct D (jfr1 x1.toNatClampNeg x2.toNatClampNeg))) (Int64.ofNat (jct D jf1))) (Int64.ofNat (jct D (jfr1 x1.toNatClampNeg x2.toNatClampNeg))) (Int64.ofNat (jct D jf1)) x3 else -4611686018427387904
theorem y_odds (hF : 5000 < F) (hDS : jDS D S) {g : Bool} (hg : g = true ↔ jGt D) {m : jMe} (hQ : jyQ D S m) {x1 x2 x3 : Int32} : ∃ m', c_X10_odds F m 101 x1 x2 x3 = some (if jDq D ≠ 0 ∧ g = false then jodds D x1 x2 x3 else -4611686018427387904, m') ∧ jfx jyO m m' ∧ jyQ D S m' := by
  have hD := hDS.1
  have hq16 := jDok_q hD
  have hL := hQ.1.1
  unfold c_X10_odds jodds
  rw [jgd_t hL.1, y_isRow hL hQ.1.2.1 hD, jb_some, jl_0, show (1 : Int64) = Int64.ofNat 1 from rfl]
  cases e1 : jrow D x1 x2 with
  | false =>
    refine ⟨m, ?_, jfx.rfl, hQ⟩
    rw [Bool.false_and, if_neg (show ¬ (false = true ∧ _) from fun h => by cases h.1), ite_self]
    rfl
  | true =>
    obtain ⟨r, k, rfl, rfl, hr, hk, hr2, hk2⟩ := jrow_nat e1
    have hr4 : r < 4 := Nat.lt_of_lt_of_le hr hD.1
    rw [if_neg (show ¬ jbi true = Int32.ofNat 0 by decide), show (0 : Int64) = Int64.ofNat 0 from rfl, q_in_int (by omega) (by omega), jb_some, ji_n hr2, ji_n hk2, Bool.true_and]
    cases e2 : jbt2 x3 0 1 with
    | false =>
      refine ⟨m, ?_, jfx.rfl, hQ⟩
      rw [Bool.false_and, if_neg (show ¬ (false = true ∧ _) from fun h => by cases h.1), ite_self]
      rfl
    | true =>
      rw [if_neg (show ¬ jbi true = Int32.ofNat 0 by decide), y_isIn hL hQ.1.2.1 hq16 (by omega), jb_some, Bool.true_and]
      cases e3 : (jDq D).testBit r with
      | false =>
        refine ⟨m, ?_, jfx.rfl, hQ⟩
        rw [if_neg (show ¬ (false = true ∧ _) from fun h => by cases h.1), ite_self]
        rfl
      | true =>
        rw [if_neg (show ¬ jbi true = Int32.ofNat 0 by decide)]
        rcases y_told (F := F) (by omega) hDS hg hQ with ⟨ht, m1, a1, a2, a3, a4⟩ | ⟨ht, m1, a1, a2, a3, a4⟩
        · rw [if_pos ht, a1, jb_some]
          dsimp only
          rw [if_neg (show ¬ (1 : Int32) = Int32.ofNat 0 by decide), jgd_t a4.1.1.1]
          obtain ⟨m2, b1, b2, b3⟩ := y_countNow1 (F := F) hF hDS ht.1 a4
          rw [b1, jb_some]
          dsimp only
          by_cases e4 : Int64.ofNat (jct D jf1) = 0
          · rw [if_pos (show lg_cmp (Int64.ofNat (jct D jf1)) (Int64.ofNat 0) = Int32.ofNat 0 from jc_eq0.mpr e4), if_neg (fun h => h.2 e4)]
            exact ⟨m2, rfl, a2.trans b2, b3⟩
          · rw [if_neg (show ¬ lg_cmp (Int64.ofNat (jct D jf1)) (Int64.ofNat 0) = Int32.ofNat 0 from fun h => e4 (jc_eq0.mp h)), if_pos ⟨rfl, e4⟩, jgd_t b3.1.1.1]
            obtain ⟨m3, c1, c2, c3⟩ := y_countOf (F := F) hF hDS ht.1 b3 hr4 hk2
            obtain ⟨j, d1, d2⟩ := jeuf_get (Int64.ofNat (jct D (jfr1 r k))) (Int64.ofNat (jct D jf1))
            rw [c1, jb_some]
            dsimp only
            rw [y_lowest (by omega) e4 d1 d2, jb_some]
            exact ⟨m3, rfl, (a2.trans b2).trans c2, c3⟩
        · rw [if_neg ht, a1, jb_some]
          exact ⟨m1, rfl, a2, a4⟩
theorem y_answers (hF : 5000 < F) (hDS : jDS D S) {g : Bool} (hg : g = true ↔ jGt D) {m : jMe} (hQ : jyQ D S m) : ∃ m', c_X10_answers F m 101 = some (if jDq D ≠ 0 ∧ g = false then Int64.ofNat (jct D jf1) else -4611686018427387904, m') ∧ jfx jyO m m' ∧ jyQ D S m' := by
  unfold c_X10_answers
  rw [jgd_t hQ.1.1.1]
  rcases y_told (F := F) (by omega) hDS hg hQ with ⟨ht, m1, a1, a2, a3, a4⟩ | ⟨ht, m1, a1, a2, a3, a4⟩
  · rw [if_pos ht, a1, jb_some]
    dsimp only
    rw [if_neg (by decide), jgd_t a4.1.1.1]
    obtain ⟨m2, b1, b2, b3⟩ := y_countNow1 (F := F) hF hDS ht.1 a4
    rw [b1, jb_some]
    exact ⟨m2, rfl, a2.trans b2, b3⟩
  · rw [if_neg ht, a1, jb_some]
    exact ⟨m1, rfl, a2, a4⟩
/-- names that answers have: attributes of relations of the query -/
def jatn (D : jD) : Nat → Nat
  | 0 => 0
  | r + 1 => if (jDq D).testBit r = true then jatn D r ||| jDa D r else jatn D r
theorem jatn_lt (hD : jDok D) : ∀ r, r ≤ 4 → jatn D r < 2 ^ 6 := by
  intro r
  induction r with
  | zero => intro _; exact Nat.two_pow_pos 6
  | succ r ih =>
    intro h
    unfold jatn
    have h2 := (hD.2.2.1 r (by omega)).2.1
    split
    · exact Nat.or_lt_two_pow (ih (by omega)) (by omega)
    · exact ih (by omega)
theorem y_attributesNow_l4 {m : jMe} (hR : jRf D S m) (hD : jDok D) : ∀ (t r f : Nat), r + t = 4 → t < f → c_X10_attributesNow_l4 F m f 101 (Int32.ofNat (jatn D r)) (Int32.ofNat r) = some (Int32.ofNat (jatn D 4)) := by
  have hL := hR.1
  have hq := jDok_q hD
  intro t
  induction t with
  | zero =>
    intro r f h1 h2
    obtain ⟨f, rfl⟩ := jsucc h2
    show c_X10_attributesNow_l4_b F _ m _ _ _ = _
    unfold c_X10_attributesNow_l4_b
    rw [if_pos (show (4 : Int32) ≤ Int32.ofNat r from ji_lep (a := 4) (by omega) (by omega) (by omega)), show r = 4 by omega]
  | succ t ih =>
    intro r f h1 h2
    obtain ⟨f, rfl⟩ := jsucc h2
    have ih := ih (r + 1) f (by omega) (by omega)
    have h64 := jatn_lt hD r (by omega)
    have hDr := hD.2.2.1 r (by omega)
    show c_X10_attributesNow_l4_b F _ m _ _ _ = _
    unfold c_X10_attributesNow_l4_b
    rw [if_neg (show ¬ (4 : Int32) ≤ Int32.ofNat r from ji_len (a := 4) (by omega) (by omega) (by omega)), jgd_t hL.1, y_isIn hL hR.2.1 hq (by omega), jb_some, jp_106 hL, jgd_t (jk_106 hL), jz_106 hL, jgd_t (ji_int (by omega) (by omega)), ji_n (by omega), (hR.2.1.2.2.2 r (by omega)).2.1, show (0 : Int32) = Int32.ofNat 0 from rfl, ji_or (by omega) (by omega), ji_or (by omega) (by have := hDr.2.1; omega), Nat.or_zero, show Int32.ofNat r + 1 = Int32.ofNat (r + 1) from ji_add r 1]
    rw [jatn] at ih
    cases e : (jDq D).testBit r with
    | false =>
      rw [e, if_neg (by decide)] at ih
      rw [if_pos (show jbi false = Int32.ofNat 0 from rfl)]
      exact ih
    | true =>
      rw [e, if_pos rfl] at ih
      rw [if_neg (show ¬ jbi true = Int32.ofNat 0 by decide)]
      exact ih
theorem y_attributesNow (hF : 100 < F) {m : jMe} (hR : jRf D S m) (hD : jDok D) : c_X10_attributesNow F m 101 = some (Int32.ofNat (jatn D 4)) := by
  unfold c_X10_attributesNow
  have h := y_attributesNow_l4 (F := F) hR hD 4 0 F (by omega) (by omega)
  have h : c_X10_attributesNow_l4 F m F 101 (0 : Int32) (0 : Int32) = _ := h
  rw [h, jb_some]
def jnam (D : jD) (x : Int32) : Bool := jbt2 x 0 5 && (jatn D 4).testBit x.toNatClampNeg
theorem jbt2_nat {x : Int32} {lo hi : Nat} (h : jbt2 x lo hi = true) : ∃ k, x = Int32.ofNat k ∧ k < 2147483648 ∧ lo ≤ k ∧ k ≤ hi := by
  unfold jbt2 at h
  rw [Bool.and_eq_true, decide_eq_true_eq, decide_eq_true_eq] at h
  obtain ⟨k, rfl, hk⟩ := ji_nat (Int32.not_lt.mpr h.1)
  rw [ji_n hk] at h
  exact ⟨k, rfl, hk, h.2.1, h.2.2⟩
theorem y_isName (hF : 100 < F) {m : jMe} (hR : jRf D S m) (hD : jDok D) {x : Int32} : c_X10_isName F m 101 x = some (jbi (jnam D x)) := by
  unfold c_X10_isName jnam
  rw [show (0 : Int64) = Int64.ofNat 0 from rfl, show (5 : Int64) = Int64.ofNat 5 from rfl, q_in_int (by omega) (by omega), jb_some]
  cases e : jbt2 x 0 5 with
  | false => rfl
  | true =>
    obtain ⟨k, rfl, hk, _, h5⟩ := jbt2_nat e
    have h64 := jatn_lt hD 4 (by omega)
    rw [if_neg (by decide), jgd_t hR.1.1, y_attributesNow hF hR hD, jb_some, jshr_1 (by omega) (by omega), ji_n hk, Bool.true_and]
    cases (jatn D 4).testBit k <;> rfl
def jvals (D : jD) (x1 x2 : Int32) : Int64 := if (jnam D x1 && jbt2 x2 0 9) = true then Int64.ofNat (jct D (jfv1 D x1.toNatClampNeg x2)) else -4611686018427387904
theorem y_values (hF : 5000 < F) (hDS : jDS D S) {g : Bool} (hg : g = true ↔ jGt D) {m : jMe} (hQ : jyQ D S m) {x1 x2 : Int32} : ∃ m', c_X10_values F m 101 x1 x2 = some (if jDq D ≠ 0 ∧ g = false then jvals D x1 x2 else -4611686018427387904, m') ∧ jfx jyO m m' ∧ jyQ D S m' := by
  have hD := hDS.1
  have hL := hQ.1.1
  unfold c_X10_values jvals
  rw [jgd_t hL.1, y_isName (by omega) hQ.1 hD, jb_some, show (0 : Int64) = Int64.ofNat 0 from rfl, show (9 : Int64) = Int64.ofNat 9 from rfl, q_in_int (by omega) (by omega), jb_some]
  cases e1 : jnam D x1 with
  | false =>
    refine ⟨m, ?_, jfx.rfl, hQ⟩
    rw [Bool.false_and, if_neg (show ¬ (false = true) by decide), ite_self]
    rfl
  | true =>
    rw [if_neg (show ¬ jbi true = 0 by decide), Bool.true_and]
    cases e2 : jbt2 x2 0 9 with
    | false =>
      refine ⟨m, ?_, jfx.rfl, hQ⟩
      rw [if_neg (show ¬ (false = true) by decide), ite_self]
      rfl
    | true =>
      have e1' := e1
      unfold jnam at e1'
      rw [Bool.and_eq_true] at e1'
      obtain ⟨a, rfl, ha, _, ha5⟩ := jbt2_nat e1'.1
      rw [if_neg (show ¬ jbi true = 0 by decide), if_pos (show true = true from rfl), ji_n ha]
      rcases y_told (F := F) (by omega) hDS hg hQ with ⟨ht, m1, a1, a2, a3, a4⟩ | ⟨ht, m1, a1, a2, a3, a4⟩
      · rw [if_pos ht, a1, jb_some]
        dsimp only
        rw [if_neg (by decide), jgd_t a4.1.1.1]
        obtain ⟨m2, b1, b2, b3⟩ := y_countValue (F := F) hF hDS ht.1 a4 (a := a) (by omega) (v := x2)
        rw [b1, jb_some]
        exact ⟨m2, rfl, a2.trans b2, b3⟩
      · rw [if_neg ht, a1, jb_some]
        exact ⟨m1, rfl, a2, a4⟩
/-- the first of values with the greatest count, counted in a long -/
def jlkl (c : Nat → Int64) : Nat → Nat → Int32 → Int64 → Int32
  | 0, _, b, _ => b
  | t + 1, v, b, s => if c v ≤ s then jlkl c t (v + 1) b s else jlkl c t (v + 1) (Int32.ofNat v) (c v)
theorem y_likeliest_l43 (hF : 5000 < F) (hDS : jDS D S) (hq0 : jDq D ≠ 0) {a : Nat} (ha : a < 6) : ∀ (t v f : Nat) (m : jMe) (b : Int32) (s : Int64), v + t = 10 → t < f → jyQ D S m → ∃ m', c_X10_likeliest_l43 F f m 101 (Int32.ofNat a) b s (Int32.ofNat v) = some (m', jlkl (fun v => Int64.ofNat (jct D (jfv1 D a (Int32.ofNat v)))) t v b s) ∧ jfx jyO m m' ∧ jyQ D S m' := by
  intro t
  induction t with
  | zero =>
    intro v f m b s h1 h2 hQ
    obtain ⟨f, rfl⟩ := jsucc h2
    refine ⟨m, ?_, jfx.rfl, hQ⟩
    show c_X10_likeliest_l43_b F _ m _ _ _ _ _ = _
    unfold c_X10_likeliest_l43_b
    rw [if_pos (show (10 : Int32) ≤ Int32.ofNat v from ji_lep (a := 10) (by omega) (by omega) (by omega))]
    rfl
  | succ t ih =>
    intro v f m b s h1 h2 hQ
    obtain ⟨f, rfl⟩ := jsucc h2
    show ∃ m', c_X10_likeliest_l43_b F _ m _ _ _ _ _ = _ ∧ _
    unfold c_X10_likeliest_l43_b
    obtain ⟨m1, a1, a2, a3⟩ := y_countValue (F := F) hF hDS hq0 hQ ha (v := Int32.ofNat v)
    rw [if_neg (show ¬ (10 : Int32) ≤ Int32.ofNat v from ji_len (a := 10) (by omega) (by omega) (by omega)), jgd_t hQ.1.1.1, a1, jb_some, jlkl, show Int32.ofNat v + 1 = Int32.ofNat (v + 1) from ji_add v 1]
    dsimp only
    by_cases e : Int64.ofNat (jct D (jfv1 D a (Int32.ofNat v))) ≤ s
    · rw [if_pos (show lg_cmp _ s ≤ 0 from jc_le0.mpr e), if_pos e]
      obtain ⟨m', b1, b2, b3⟩ := ih (v + 1) f m1 b s (by omega) (by omega) a3
      exact ⟨m', b1, a2.trans b2, b3⟩
    · rw [if_neg (show ¬ lg_cmp _ s ≤ 0 from fun h => e (jc_le0.mp h)), if_neg e]
      obtain ⟨m', b1, b2, b3⟩ := ih (v + 1) f m1 (Int32.ofNat v) (Int64.ofNat (jct D (jfv1 D a (Int32.ofNat v)))) (by omega) (by omega) a3
      exact ⟨m', b1, a2.trans b2, b3⟩
def jlikely (D : jD) (a : Nat) : Int32 := jlkl (fun v => Int64.ofNat (jct D (jfv1 D a (Int32.ofNat v)))) 10 0 (-1) 0
theorem y_likeliest (hF : 5000 < F) (hDS : jDS D S) {g : Bool} (hg : g = true ↔ jGt D) {m : jMe} (hQ : jyQ D S m) {x1 : Int32} : ∃ m', c_X10_likeliest F m 101 x1 = some (if jbt2 x1 0 5 = true then (if jnam D x1 = true then (if jDq D ≠ 0 ∧ g = false then jlikely D x1.toNatClampNeg else -5) else -3) else -2, m') ∧ jfx jyO m m' ∧ jyQ D S m' := by
  have hD := hDS.1
  have hL := hQ.1.1
  unfold c_X10_likeliest
  rw [show c_X10_in F m (Int32.toInt64 x1) (0 : Int64) (5 : Int64) = some (jbi (jbt2 x1 0 5)) from q_in_int (lo := 0) (hi := 5) (by omega) (by omega), jb_some, jgd_t hL.1, y_isName (by omega) hQ.1 hD, jb_some]
  cases e1 : jbt2 x1 0 5 with
  | false => exact ⟨m, rfl, jfx.rfl, hQ⟩
  | true =>
    rw [if_neg (show ¬ jbi true = 0 by decide), if_pos rfl]
    cases e2 : jnam D x1 with
    | false => exact ⟨m, rfl, jfx.rfl, hQ⟩
    | true =>
      obtain ⟨a, rfl, ha, _, ha5⟩ := jbt2_nat e1
      rw [if_neg (show ¬ jbi true = 0 by decide), if_pos rfl, ji_n ha]
      rcases y_told (F := F) (by omega) hDS hg hQ with ⟨ht, m1, a1, a2, a3, a4⟩ | ⟨ht, m1, a1, a2, a3, a4⟩
      · rw [if_pos ht, a1, jb_some]
        dsimp only
        rw [if_neg (by decide)]
        obtain ⟨m2, b1, b2, b3⟩ := y_likeliest_l43 (F := F) hF hDS ht.1 (a := a) (by omega) 10 0 F m1 (-1) 0 (by omega) (by omega) a4
        have b1 : c_X10_likeliest_l43 F F m1 101 (Int32.ofNat a) (-1) 0 (0 : Int32) = _ := b1
        rw [b1, jb_some]
        exact ⟨m2, rfl, a2.trans b2, b3⟩
      · rw [if_neg ht, a1, jb_some]
        exact ⟨m1, rfl, a2, a4⟩
end YMORE
