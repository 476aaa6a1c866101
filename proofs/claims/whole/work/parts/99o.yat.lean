/-! dangling, at, draw, space, bounds, weights, as the reference tells them -/
section YAT
variable {F : Nat} {D : jD} {S : jTS}
theorem y_or0 {n k : Nat} (hn : n < 256) (hk : k < 8) : Int32.ofNat n ||| jshl (0 : Int32) (Int32.ofNat k) = Int32.ofNat n := by
  have : ∀ n : Fin 256, ∀ k : Fin 8, Int32.ofNat n.1 ||| jshl (0 : Int32) (Int32.ofNat k.1) = Int32.ofNat n.1 := by decide +kernel
  exact this ⟨n, hn⟩ ⟨k, hk⟩
theorem y_dangling_l36 (hF : 5000 < F) (hDS : jDS D S) (hq0 : jDq D ≠ 0) {r : Nat} (hr : r < 4) : ∀ (t k f : Nat) (m : jMe), k + t = jDz D r → t < f → jyQ D S m → ∃ m', c_X10_dangling_l36 F f m 101 (Int32.ofNat r) (Int32.ofNat (jbw k (jdl1 D r))) (Int32.ofNat k) = some (m', Int32.ofNat (jbw (jDz D r) (jdl1 D r))) ∧ jfx jyO m m' ∧ jyQ D S m' := by
  have hD := hDS.1
  have hz := (hD.2.2.1 r hr).2.2.1
  intro t
  induction t with
  | zero =>
    intro k f m h1 h2 hQ
    obtain ⟨f, rfl⟩ := jsucc h2
    have hL := hQ.1.1
    refine ⟨m, ?_, jfx.rfl, hQ⟩
    show c_X10_dangling_l36_b F _ m _ _ _ _ = _
    unfold c_X10_dangling_l36_b
    rw [jgd_t hL.1, jp_107 hL, jgd_t (jk_107 hL), jz_107 hL, jgd_t (ji_int (by omega) hr), ji_n (by omega), (hQ.1.2.1.2.2.2 r hr).2.2.1, if_pos (ji_lep (by omega) (by omega) (by omega)), show k = jDz D r by omega]
  | succ t ih =>
    intro k f m h1 h2 hQ
    obtain ⟨f, rfl⟩ := jsucc h2
    have hL := hQ.1.1
    have hlt := jbw_lt (p := jdl1 D r) (n := k)
    have hp8 : 2 ^ k ≤ 2 ^ 7 := Nat.pow_le_pow_right (by omega) (by omega)
    obtain ⟨m1, a1, a2, a3⟩ := y_isPassing (F := F) (by omega) hDS hr (show k < jDz D r by omega) hQ.1
    have hQ1 : jyQ D S m1 := jyQ_fx a2 (by unfold jSpp; omega) a3 hQ
    have f1 : jfx jyO m m1 := a2.weak (fun a i h => jyO_spp h)
    show ∃ m', c_X10_dangling_l36_b F _ m _ _ _ _ = _ ∧ _
    unfold c_X10_dangling_l36_b
    rw [jgd_t hL.1, jp_107 hL, jgd_t (jk_107 hL), jz_107 hL, jgd_t (ji_int (by omega) hr), ji_n (by omega), (hQ.1.2.1.2.2.2 r hr).2.2.1, if_neg (ji_len (by omega) (by omega) (by omega)), a1, jb_some]
    dsimp only
    rw [y_or0 (by omega) (by omega), show Int32.ofNat k + 1 = Int32.ofNat (k + 1) from ji_add k 1]
    have hst := jbw_st (p := jdl1 D r) (n := k)
    cases ep : jpb D r k with
    | false =>
      have e1 : jdl1 D r k = false := by unfold jdl1; rw [ep]; rfl
      rw [e1, if_neg (by decide)] at hst
      obtain ⟨m', b1, b2, b3⟩ := ih (k + 1) f m1 (by omega) (by omega) hQ1
      rw [hst] at b1
      rw [if_pos (show jbi false = 0 from rfl)]
      exact ⟨m', b1, f1.trans b2, b3⟩
    | true =>
      rw [if_neg (show ¬ jbi true = 0 by decide), jgd_t hQ1.1.1.1]
      obtain ⟨m2, c1, c2, c3⟩ := y_countOf (F := F) hF hDS hq0 hQ1 hr (k := k) (by omega)
      rw [c1, jb_some]
      dsimp only
      obtain ⟨m', b1, b2, b3⟩ := ih (k + 1) f m2 (by omega) (by omega) c3
      by_cases e : Int64.ofNat (jct D (jfr1 r k)) = 0
      · have e1 : jdl1 D r k = true := by unfold jdl1; rw [ep, decide_eq_true e]; rfl
        rw [e1, if_pos rfl] at hst
        rw [hst] at b1
        rw [if_pos (show lg_cmp _ 0 = 0 from jc_eq0.mpr e), jset_or (by omega) (by omega)]
        exact ⟨m', b1, (f1.trans c2).trans b2, b3⟩
      · have e1 : jdl1 D r k = false := by unfold jdl1; rw [ep, decide_eq_false e]; rfl
        rw [e1, if_neg (by decide)] at hst
        rw [hst] at b1
        rw [if_neg (show ¬ lg_cmp _ 0 = 0 from fun h => e (jc_eq0.mp h))]
        exact ⟨m', b1, (f1.trans c2).trans b2, b3⟩
theorem y_dangling (hF : 5000 < F) (hDS : jDS D S) {g : Bool} (hg : g = true ↔ jGt D) {m : jMe} (hQ : jyQ D S m) {x1 : Int32} : ∃ m', c_X10_dangling F m 101 x1 = some (if jin x1 (jDn D) = true then (if (jDq D).testBit x1.toNatClampNeg = true then (if jDq D ≠ 0 ∧ g = false then Int32.ofNat (jbw (jDz D x1.toNatClampNeg) (jdl1 D x1.toNatClampNeg)) else -5) else -3) else -2, m') ∧ jfx jyO m m' ∧ jyQ D S m' := by
  have hD := hDS.1
  have hL := hQ.1.1
  have hq16 := jDok_q hD
  have hn := hD.1
  unfold c_X10_dangling
  rw [jgd_t hL.1, y_isRelation hL hQ.1.2.1 hD, jb_some]
  cases e1 : jin x1 (jDn D) with
  | false => exact ⟨m, rfl, jfx.rfl, hQ⟩
  | true =>
    obtain ⟨r, rfl, hr1, hr2⟩ := jin_nat e1
    rw [if_neg (show ¬ jbi true = 0 by decide), if_pos rfl, y_isIn hL hQ.1.2.1 hq16 (by omega), jb_some, ji_n hr1]
    cases e2 : (jDq D).testBit r with
    | false => exact ⟨m, rfl, jfx.rfl, hQ⟩
    | true =>
      rw [if_neg (show ¬ jbi true = 0 by decide), if_pos rfl]
      rcases y_told (F := F) (by omega) hDS hg hQ with ⟨ht, m1, a1, a2, a3, a4⟩ | ⟨ht, m1, a1, a2, a3, a4⟩
      · rw [if_pos ht, a1, jb_some]
        dsimp only
        rw [if_neg (by decide)]
        obtain ⟨m2, b1, b2, b3⟩ := y_dangling_l36 (F := F) hF hDS ht.1 (r := r) (by omega) (jDz D r) 0 F m1 (by omega) (by have := (hD.2.2.1 r (by omega)).2.2.1; omega) a4
        have b1 : c_X10_dangling_l36 F F m1 101 (Int32.ofNat r) (0 : Int32) (0 : Int32) = _ := b1
        rw [b1, jb_some]
        exact ⟨m2, rfl, a2.trans b2, b3⟩
      · rw [if_neg ht, a1, jb_some]
        exact ⟨m1, rfl, a2, a4⟩
theorem y_space (hF : 1000 < F) (hDS : jDS D S) {g : Bool} (hg : g = true ↔ jGt D) {m : jMe} (hQ : jyQ D S m) : ∃ m', c_X10_space F m 101 = some (if jDq D ≠ 0 ∧ g = false then Int64.ofNat (jsp D 4) else -4611686018427387904, m') ∧ jfx jyO m m' ∧ jyQ D S m' := by
  unfold c_X10_space
  rw [jgd_t hQ.1.1.1]
  rcases y_told (F := F) hF hDS hg hQ with ⟨ht, m1, a1, a2, a3, a4⟩ | ⟨ht, m1, a1, a2, a3, a4⟩
  · rw [if_pos ht, a1, jb_some]
    dsimp only
    rw [if_neg (by decide), jgd_t a4.1.1.1, a3.2.2.2.2.1]
    exact ⟨m1, rfl, a2, a4⟩
  · rw [if_neg ht, a1, jb_some]
    exact ⟨m1, rfl, a2, a4⟩
def jbnd (D : jD) (x1 : Int32) : Int64 := if jin x1 (jDn D) = true ∧ (jdC D).testBit x1.toNatClampNeg = true then Int64.ofNat (jbd D x1.toNatClampNeg) else -4611686018427387904
theorem y_bound (hF : 1000 < F) (hDS : jDS D S) {g : Bool} (hg : g = true ↔ jGt D) {m : jMe} (hQ : jyQ D S m) {x1 : Int32} : ∃ m', c_X10_bound F m 101 x1 = some (if jDq D ≠ 0 ∧ g = false then jbnd D x1 else -4611686018427387904, m') ∧ jfx jyO m m' ∧ jyQ D S m' := by
  have hD := hDS.1
  have hL := hQ.1.1
  have hq16 := jDok_q hD
  have hn := hD.1
  unfold c_X10_bound jbnd
  rw [jgd_t hL.1, y_isRelation hL hQ.1.2.1 hD, jb_some]
  cases e1 : jin x1 (jDn D) with
  | false =>
    refine ⟨m, ?_, jfx.rfl, hQ⟩
    rw [if_pos (show jbi false = 0 from rfl), if_neg (show ¬ (false = true ∧ (jdC D).testBit x1.toNatClampNeg = true) from fun h => by cases h.1), ite_self]
  | true =>
    obtain ⟨r, rfl, hr1, hr2⟩ := jin_nat e1
    rw [if_neg (show ¬ jbi true = 0 by decide), ji_n hr1]
    rcases y_told (F := F) hF hDS hg hQ with ⟨ht, m1, a1, a2, a3, a4⟩ | ⟨ht, m1, a1, a2, a3, a4⟩
    · have hL1 := a4.1.1
      rw [if_pos ht, a1, jb_some]
      dsimp only
      rw [if_neg (by decide), jgd_t hL1.1, y_isCheck a3.1 hq16 (by omega), jb_some, jp_116 hL1, jgd_t (jk_116 hL1), jz_116 hL1, jgd_t (ji_int (by omega) (by omega)), a3.2.2.1 r (by omega)]
      cases e : (jdC D).testBit r with
      | false =>
        refine ⟨m1, ?_, a2, a4⟩
        rw [if_pos (show jbi false = 0 from rfl), if_neg (show ¬ (true = true ∧ false = true) from fun h => by cases h.2)]
      | true =>
        refine ⟨m1, ?_, a2, a4⟩
        rw [if_neg (show ¬ jbi true = 0 by decide), if_pos rfl, if_pos (show true = true ∧ true = true from ⟨rfl, rfl⟩)]
    · rw [if_neg ht, a1, jb_some]
      exact ⟨m1, rfl, a2, a4⟩
def jwgt (D : jD) (x1 x2 : Int32) : Int64 := if jrow D x1 x2 = true ∧ (jdK D).testBit x1.toNatClampNeg = true then Int64.ofNat (jW1 D x1.toNatClampNeg x2.toNatClampNeg) else -4611686018427387904
theorem y_weight (hF : 1000 < F) (hDS : jDS D S) {g : Bool} (hg : g = true ↔ jGt D) {m : jMe} (hQ : jyQ D S m) {x1 x2 : Int32} : ∃ m', c_X10_weight F m 101 x1 x2 = some (if jDq D ≠ 0 ∧ g = false then jwgt D x1 x2 else -4611686018427387904, m') ∧ jfx jyO m m' ∧ jyQ D S m' := by
  have hD := hDS.1
  have hL := hQ.1.1
  have hq16 := jDok_q hD
  have hK := jdK_lt hq16
  have hn := hD.1
  unfold c_X10_weight jwgt
  rw [jgd_t hL.1, y_isRow hL hQ.1.2.1 hD, jb_some]
  cases e1 : jrow D x1 x2 with
  | false =>
    refine ⟨m, ?_, jfx.rfl, hQ⟩
    rw [if_pos (show jbi false = 0 from rfl), if_neg (show ¬ (false = true ∧ (jdK D).testBit x1.toNatClampNeg = true) from fun h => by cases h.1), ite_self]
  | true =>
    obtain ⟨r, k, rfl, rfl, hr, hk, hr2, hk2⟩ := jrow_nat e1
    have hr4 : r < 4 := Nat.lt_of_lt_of_le hr hn
    have hz := (hD.2.2.1 r hr4).2.2.1
    rw [if_neg (show ¬ jbi true = 0 by decide), ji_n hr2, ji_n hk2]
    rcases y_told (F := F) hF hDS hg hQ with ⟨ht, m1, a1, a2, a3, a4⟩ | ⟨ht, m1, a1, a2, a3, a4⟩
    · have hL1 := a4.1.1
      obtain ⟨root, hT, hrt, hr4', hro⟩ := jtree0 hD
      rw [if_pos ht, a1, jb_some]
      dsimp only
      rw [if_neg (by decide), jgd_t hL1.1, a3.1.2.2, jshr_1 (by omega) (by omega), jp_114 hL1, jgd_t (jk_114 hL1), jz_114 hL1, show (8 : Int32) = Int32.ofNat 8 from rfl, ji_mul, ji_add, jgd_t (ji_int (by omega) (by omega)), ji_n (by omega)]
      cases e : (jdK D).testBit r with
      | false =>
        refine ⟨m1, ?_, a2, a4⟩
        rw [if_neg (show ¬ jbi false = 1 by decide), if_neg (show ¬ (true = true ∧ false = true) from fun h => by cases h.2)]
      | true =>
        have hro1 : r ∈ jord D := (hT.2.1 r).mpr ⟨hr4, e⟩
        refine ⟨m1, ?_, a2, a4⟩
        rw [if_pos (show jbi true = 1 from rfl), if_pos (show true = true ∧ true = true from ⟨rfl, rfl⟩), ((a3.2.2.2.1 r hro1).1 k hk).1]
    · rw [if_neg ht, a1, jb_some]
      exact ⟨m1, rfl, a2, a4⟩
theorem y_reck (hF : 1000 < F) (hDS : jDS D S) {g : Bool} (hg : g = true ↔ jGt D) {m : jMe} (hQ : jyQ D S m) : ∃ m', c_X10_reckons F m 101 = some m' ∧ jfx jyO m m' ∧ jYJ D S m' ∧ jyQ D S m' ∧ jI m' 101 31 = jbi g := by
  obtain ⟨hR, ⟨x, hx4, hx⟩, h37, h39⟩ := hQ
  obtain ⟨m', a1, a2, a3⟩ := y_reckons (F := F) hF hDS hR hx hx4
  refine ⟨m', a1, a2.weak (fun a i h => jyO_srk h), a3, ⟨a3.1.1, a3.1.2.1.2.2, by rw [a2.I (by unfold jSrk; omega)]; exact h37, by rw [a2.I (by unfold jSrk; omega)]; exact h39⟩, ?_⟩
  obtain ⟨g', g1, g2, _⟩ := a3.2.2
  have : g' = g := by
    cases g' <;> cases g <;> first | rfl | (exfalso; have := g2.trans hg.symm; simp at this)
  rw [g1, this]
theorem jDq_0 (hD : jDok D) : (Int32.ofNat (jDq D) = 0) ↔ jDq D = 0 := by
  have := jDok_q hD
  constructor
  · intro h
    exact (ji_eq (a := jDq D) (b := 0) (by omega) (by omega)).mp h
  · intro h
    rw [h]
    rfl
/-- what stands at a position: of a kind k of telling -/
def jatk (D : jD) (o : Option (Nat → Nat)) (k : Nat) : Int32 := if k = 0 then jbi o.isSome else match o with
  | none => -1
  | some R => if k = 1 then Int32.ofNat (jdg D R 4 0 0) else jav D R (k - 2)
theorem y_at (hF : 1000 < F) (hDS : jDS D S) {g : Bool} (hg : g = true ↔ jGt D) {m : jMe} (hQ : jyQ D S m) {x1 : Int64} {x3 : Int32} : ∃ m', c_X10_at F m 101 x1 x3 = some (if jbt2 x3 0 7 = true then (if jDq D = 0 then -3 else if g = true then -5 else if 0 ≤ x1 ∧ x1 < Int64.ofNat (jsp D 4) then jatk D (jlead D x1.toNatClampNeg) x3.toNatClampNeg else -2) else -2, m') ∧ jfx jyO m m' ∧ jyQ D S m' := by
  have hD := hDS.1
  have hL := hQ.1.1
  unfold c_X10_at
  rw [show c_X10_in F m (Int32.toInt64 x3) (0 : Int64) (7 : Int64) = some (jbi (jbt2 x3 0 7)) from q_in_int (lo := 0) (hi := 7) (by omega) (by omega), jb_some]
  cases e1 : jbt2 x3 0 7 with
  | false => exact ⟨m, rfl, jfx.rfl, hQ⟩
  | true =>
    obtain ⟨k, rfl, hk, _, hk7⟩ := jbt2_nat e1
    rw [if_neg (show ¬ jbi true = 0 by decide), if_pos rfl, jgd_t hL.1, hQ.1.2.1.2.2.1, ji_n hk]
    by_cases hq0 : jDq D = 0
    · rw [if_pos ((jDq_0 hD).mpr hq0), if_pos hq0]
      exact ⟨m, rfl, jfx.rfl, hQ⟩
    rw [if_neg (fun h => hq0 ((jDq_0 hD).mp h)), if_neg hq0]
    obtain ⟨m1, a1, a2, a3, a4, a5⟩ := y_reck (F := F) hF hDS hg hQ
    rw [a1, jb_some, jgd_t a4.1.1.1, a5]
    cases hgg : g with
    | true => exact ⟨m1, rfl, a2, a4⟩
    | false =>
      have hY := jYg_of a3 (fun h => by have := hg.mpr h; rw [hgg] at this; cases this)
      have hs := hY.2.2.2.2.1
      have hsm := hY.2.2.2.2.2.1
      rw [if_pos (show jbi false = 0 from rfl), if_neg (by decide), q_in, jb_some, hs]
      have hin : (decide ((0 : Int64) ≤ x1) && decide (x1 ≤ Int64.ofNat (jsp D 4) - 1)) = decide (0 ≤ x1 ∧ x1 < Int64.ofNat (jsp D 4)) := by
        rw [← Bool.decide_and]
        refine decide_eq_decide.mpr (and_congr_right (fun h0 => ?_))
        have hx : x1 = Int64.ofNat x1.toNatClampNeg := (Int64.ofNat_toNatClampNeg x1 h0).symm
        have h63 := Int64.toNatClampNeg_lt x1
        by_cases hp : 1 ≤ jsp D 4
        · rw [show (1 : Int64) = Int64.ofNat 1 from rfl, jq_sub hp]
          by_cases hxm : x1.toNatClampNeg ≤ jMX
          · rw [hx, jq_le hxm (by omega), jq_lt hxm hsm]
            omega
          · have e5 : ∀ n, n ≤ jMX → ¬ Int64.ofNat x1.toNatClampNeg ≤ Int64.ofNat n := fun n hn h => by
              have := (Int64.ofNat_le_iff_le (by omega) (by unfold jMX at hn; omega)).mp h
              omega
            rw [hx]
            exact ⟨fun h => absurd h (e5 _ (by omega)), fun h => absurd (Int64.le_of_lt h) (e5 _ hsm)⟩
        · have h0' : jsp D 4 = 0 := by omega
          rw [h0']
          refine ⟨fun h => ?_, fun h => absurd (Int64.lt_of_le_of_lt h0 h) Int64.lt_irrefl⟩
          have : (Int64.ofNat 0 - 1 : Int64) < 0 := by decide
          exact absurd (Int64.lt_of_le_of_lt (Int64.le_trans h0 h) this) Int64.lt_irrefl
      rw [hin]
      by_cases hx : 0 ≤ x1 ∧ x1 < Int64.ofNat (jsp D 4)
      · have hx1 : x1 = Int64.ofNat x1.toNatClampNeg := (Int64.ofNat_toNatClampNeg x1 hx.1).symm
        have hlt : x1.toNatClampNeg < jsp D 4 := by
          have h2 := hx.2
          have h63 := Int64.toNatClampNeg_lt x1
          rw [hx1] at h2
          exact (Int64.ofNat_lt_iff_lt (by omega) (by unfold jMX at hsm; omega)).mp h2
        rw [decide_eq_true hx, if_neg (show ¬ jbi true = 0 by decide), if_pos hx]
        obtain ⟨m2, b1, b2, b3, b4⟩ := y_isGood (F := F) hF hDS hq0 hlt hY
        rw [← hx1] at b1
        have hQ2 : jyQ D S m2 := jyQ_fx b2 (by unfold jSpp; omega) b3.1.1 a4
        have f2 : jfx jyO m m2 := a2.trans (b2.weak (fun a i h => by unfold jyO; unfold jSpp at h; omega))
        rw [b1, jb_some]
        dsimp only
        unfold jatk
        by_cases k0 : k = 0
        · rw [if_pos (show Int32.ofNat k = 0 by rw [k0]; rfl), if_pos k0]
          refine ⟨m2, ?_, f2, hQ2⟩
          cases jlead D x1.toNatClampNeg <;> rfl
        rw [if_neg (show ¬ Int32.ofNat k = 0 from ji_eqn (b := 0) (by omega) (by omega) k0), if_neg k0]
        cases ho : jlead D x1.toNatClampNeg with
        | none => exact ⟨m2, rfl, f2, hQ2⟩
        | some R =>
          have hw := b4 R ho
          have hq16 := jDok_q hD
          rw [if_neg (show ¬ jbi (some R).isSome = 0 from by show ¬ jbi true = 0; decide)]
          dsimp only
          by_cases k1 : k = 1
          · rw [if_pos (show Int32.ofNat k = 1 by rw [k1]; rfl), if_pos k1, jgd_t hQ2.1.1.1, y_digitsNow (by omega) hQ2.1 hq16 hw, jb_some]
            exact ⟨m2, rfl, f2, hQ2⟩
          · rw [if_neg (show ¬ Int32.ofNat k = 1 from ji_eqn (b := 1) (by omega) (by omega) k1), if_neg k1, jgd_t hQ2.1.1.1, show (2 : Int32) = Int32.ofNat 2 from rfl, ji_sub (by omega), y_valueNow (by omega) hQ2.1 hD hw (by omega), jb_some]
            exact ⟨m2, rfl, f2, hQ2⟩
      · rw [decide_eq_false hx, if_pos (show jbi false = 0 from rfl), if_neg hx]
        exact ⟨m1, rfl, a2, a4⟩
end YAT
