/-! weights, bounds, positions, draws, odds, as the class tells them -/
section XTELL2
variable {F w : Nat} {D : jD} {m : jMe}
theorem xq_weight (hF : 2000 < F) (h : xqQ D w m) {g : Bool} (hg : g = true ↔ jGt D) {x1 x2 : Int32} : ∃ m', c_X9_weight F m 32 x1 x2 = some (if jDq D ≠ 0 ∧ g = false then jwgt D x1 x2 else -4611686018427387904, m') ∧ xqF xqO m m' ∧ xqQ D w m' := by
  have hB := h.1
  have hL := hB.2.1.1
  unfold c_X9_weight jwgt
  rw [jgd_t hL.1, xq_isRow hB, jb_some]
  cases e1 : jrow D x1 x2 with
  | false =>
    refine ⟨m, ?_, xqF.rfl, h⟩
    rw [if_neg (show ¬ (false = true ∧ _) from fun h => by cases h.1), ite_self]
    rfl
  | true =>
    obtain ⟨r, k, rfl, rfl, hr, hk, hr2, hk2⟩ := jrow_nat e1
    have hr4 : r < 4 := Nat.lt_of_lt_of_le hr hB.1.1
    have hz := (hB.1.2.2.1 r hr4).2.2.1
    have hK16 := jdK_lt (jDok_q hB.1)
    obtain ⟨root, hT, -⟩ := jtree0 hB.1
    rw [if_neg (show ¬ jbi true = 0 by decide), ji_n hr2, ji_n hk2]
    obtain ⟨m1, a1, a2, a3, a4⟩ := xq_told (F := F) hF h hg
    have hJ := a3.2.2.1.1.1
    have hLT := hJ.2.2.2.2.2.2.2.2.2.2.2.2.2.2.2.2.2.2
    have hM := a3.2.2.1.2.1
    rw [a1, jb_some]
    dsimp only
    rw [jgd_t hJ.1]
    rcases a4 with ⟨e2, e3, e4⟩ | ⟨e2, e4⟩
    · rw [e4, jb_some, if_neg (show ¬ (1 : Int32) = 0 by decide), jgd_t a3.1.2.1.1.1, xq_cur0 a3, jb_some]
      dsimp only
      rw [jgd_t hJ.1, hJ.2.1, jgd_t hLT.1, show jI m1 50 6 = Int32.ofNat (jdK D) from hM.1, q_isIn (by omega) (by omega), jb_some, if_pos (show jDq D ≠ 0 ∧ g = false from ⟨e2, e3⟩)]
      cases e5 : (jdK D).testBit r with
      | false =>
        rw [if_neg (show ¬ (true = true ∧ _) from fun h => by cases h.2)]
        exact ⟨m1, rfl, a2, xqC_Q a3⟩
      | true =>
        have hrd := ((xq_great a3 hg).2 e3).1 r ((hT.2.1 r).mpr ⟨hr4, e5⟩)
        rw [if_neg (show ¬ jbi true = 0 by decide), if_pos ⟨rfl, rfl⟩, jgd_t a3.1.2.1.1.1, xq_cur0 a3, jb_some]
        dsimp only
        rw [jgd_t hJ.1, hJ.2.2.1, jgd_t hJ.2.2.2.2.2.2.2.2.2.2.1.1, hJ.2.2.2.2.2.2.2.2.2.2.1.2, show Int32.ofNat r * (8 : Int32) + Int32.ofNat k = Int32.ofNat (r * 8 + k) by rw [show (8 : Int32) = Int32.ofNat 8 from rfl, ji_mul, ji_add], jgd_t (ji_int (by omega) (by omega)), ji_n (by omega), show jL m1 55 (r * 8 + k) = Int64.ofNat (jW1 D r k) from (hrd.1 k hk).1]
        exact ⟨m1, rfl, a2, xqC_Q a3⟩
    · rw [e4, jb_some, if_pos rfl, if_neg e2]
      exact ⟨m1, rfl, a2, xqC_Q a3⟩
theorem xq_bound (hF : 2000 < F) (h : xqQ D w m) {g : Bool} (hg : g = true ↔ jGt D) {x1 : Int32} : ∃ m', c_X9_bound F m 32 x1 = some (if jDq D ≠ 0 ∧ g = false then jbnd D x1 else -4611686018427387904, m') ∧ xqF xqO m m' ∧ xqQ D w m' := by
  have hB := h.1
  have hL := hB.2.1.1
  have hn := hB.1.1
  unfold c_X9_bound jbnd
  rw [jgd_t hL.1, xq_isRel hB, jb_some]
  cases e1 : jin x1 (jDn D) with
  | false =>
    refine ⟨m, ?_, xqF.rfl, h⟩
    rw [if_neg (show ¬ (false = true ∧ _) from fun h => by cases h.1), ite_self]
    rfl
  | true =>
    obtain ⟨r, rfl, hr2, hr⟩ := jin_nat e1
    have hr4 : r < 4 := by omega
    have hC16 := jdC_lt (D := D)
    rw [if_neg (show ¬ jbi true = 0 by decide), ji_n hr2]
    obtain ⟨m1, a1, a2, a3, a4⟩ := xq_told (F := F) hF h hg
    have hJ := a3.2.2.1.1.1
    have hLT := hJ.2.2.2.2.2.2.2.2.2.2.2.2.2.2.2.2.2.2
    have hM := a3.2.2.1.2.1
    rw [a1, jb_some]
    dsimp only
    rw [jgd_t hJ.1]
    rcases a4 with ⟨e2, e3, e4⟩ | ⟨e2, e4⟩
    · rw [e4, jb_some, if_neg (show ¬ (1 : Int32) = 0 by decide), jgd_t a3.1.2.1.1.1, xq_cur0 a3, jb_some]
      dsimp only
      rw [jgd_t hJ.1, hJ.2.1, jgd_t hLT.1, show jI m1 50 7 = Int32.ofNat (jdC D) from hM.2.1, q_isIn (by omega) (by omega), jb_some, if_pos (show jDq D ≠ 0 ∧ g = false from ⟨e2, e3⟩)]
      cases e5 : (jdC D).testBit r with
      | false =>
        rw [if_neg (show ¬ (true = true ∧ _) from fun h => by cases h.2)]
        exact ⟨m1, rfl, a2, xqC_Q a3⟩
      | true =>
        have hbd := a3.2.2.1.2.2.2.2.1 r hr4
        rw [e5, if_pos rfl] at hbd
        rw [if_neg (show ¬ jbi true = 0 by decide), if_pos ⟨rfl, rfl⟩, jgd_t a3.1.2.1.1.1, xq_cur0 a3, jb_some]
        dsimp only
        rw [jgd_t hJ.1, hJ.2.2.2.1, jgd_t hJ.2.2.2.2.2.2.2.2.2.2.2.1.1, hJ.2.2.2.2.2.2.2.2.2.2.2.1.2, jgd_t (ji_int (by omega) (by omega)), show jL m1 56 r = Int64.ofNat (jbd D r) from hbd]
        exact ⟨m1, rfl, a2, xqC_Q a3⟩
    · rw [e4, jb_some, if_pos rfl, if_neg e2]
      exact ⟨m1, rfl, a2, xqC_Q a3⟩
theorem xq_space (hF : 2000 < F) (h : xqQ D w m) {g : Bool} (hg : g = true ↔ jGt D) : ∃ m', c_X9_space F m 32 = some (if jDq D ≠ 0 ∧ g = false then Int64.ofNat (jsp D 4) else -4611686018427387904, m') ∧ xqF xqO m m' ∧ xqQ D w m' := by
  have hL := h.1.2.1.1
  unfold c_X9_space
  obtain ⟨m1, a1, a2, a3, a4⟩ := xq_told (F := F) hF h hg
  have hJ := a3.2.2.1.1.1
  rw [jgd_t hL.1, a1, jb_some]
  dsimp only
  rw [jgd_t hJ.1]
  rcases a4 with ⟨e2, e3, e4⟩ | ⟨e2, e4⟩
  · rw [e4, jb_some, if_neg (show ¬ (1 : Int32) = 0 by decide), jgd_t a3.1.2.1.1.1, xq_cur0 a3, jb_some]
    dsimp only
    rw [jgd_t hJ.1, ((xq_great a3 hg).2 e3).2.1, if_pos (show jDq D ≠ 0 ∧ g = false from ⟨e2, e3⟩)]
    exact ⟨m1, rfl, a2, xqC_Q a3⟩
  · rw [e4, jb_some, if_pos rfl, if_neg e2]
    exact ⟨m1, rfl, a2, xqC_Q a3⟩
/-- a tally -/
theorem xq_tally (hF : 2000 < F) (h : xqC D w m) : ∃ m', c_X2_tally F m 49 = some (Int64.ofNat (jct D jf1), m') ∧ xqF xqO m m' ∧ xqC D w m' ∧ jTly D 49 m' := by
  obtain ⟨m', a1, a2, a3, a4, a5, a6, a7⟩ := q_tally (F := F) hF (jDok_q h.1.1) h.2.2.1 h.2.2.2
  obtain ⟨b1, b2⟩ := xqC_ty h a2 a5 a6 a7
  exact ⟨m', a1, b2, b1, a7⟩
theorem xq_answers (hF : 2000 < F) (h : xqQ D w m) {g : Bool} (hg : g = true ↔ jGt D) : ∃ m', c_X9_answers F m 32 = some (if jDq D ≠ 0 ∧ g = false then Int64.ofNat (jct D jf1) else -4611686018427387904, m') ∧ xqF xqO m m' ∧ xqQ D w m' := by
  have hL := h.1.2.1.1
  unfold c_X9_answers
  obtain ⟨m1, a1, a2, a3, a4⟩ := xq_told (F := F) hF h hg
  have hJ := a3.2.2.1.1.1
  rw [jgd_t hL.1, a1, jb_some]
  dsimp only
  rw [jgd_t hJ.1]
  rcases a4 with ⟨e2, e3, e4⟩ | ⟨e2, e4⟩
  · rw [e4, jb_some, if_neg (show ¬ (1 : Int32) = 0 by decide), jgd_t a3.1.2.1.1.1, xq_cur0 a3, jb_some]
    dsimp only
    obtain ⟨m2, b1, b2, b3, b4⟩ := xq_tally (F := F) hF a3
    rw [jgd_t hJ.1, b1, jb_some, if_pos (show jDq D ≠ 0 ∧ g = false from ⟨e2, e3⟩)]
    exact ⟨m2, rfl, a2.trans b2, xqC_Q b3⟩
  · rw [e4, jb_some, if_pos rfl, if_neg e2]
    exact ⟨m1, rfl, a2, xqC_Q a3⟩
/-- a position is led -/
theorem xq_lead (hF : 2000 < F) (h : xqC D w m) {g : Bool} (hg : g = true ↔ jGt D) (hq0 : jDq D ≠ 0) (hgf : g = false) {p : Nat} (hp : p < jsp D 4) : ∃ m', c_X2_lead F m 49 (Int64.ofNat p) = some (jbi (jlead D p).isSome, m') ∧ xqF xqO m m' ∧ xqC D w m' ∧ ∀ R, jlead D p = some R → jsd D (fun x => (jDq D).testBit x) R 49 m' := by
  have hgr := (xq_great h hg).1
  rw [hgf] at hgr
  obtain ⟨m', a1, a2, a3, a4, a5⟩ := q_lead (F := F) hF h.1.1 hq0 h.2.2.1 hgr hp
  obtain ⟨b1, b2⟩ := xqC_dr h (a2.weak (fun a q => by unfold jSle at q; unfold jSdr; omega)) (fun j h1 h2 h3 => a3 j h2 h3) a4
  exact ⟨m', a1, b2, b1, a5⟩
theorem xq_drawn (hF : 2000 < F) (h : xqC D w m) {g : Bool} (hg : g = true ↔ jGt D) (hq0 : jDq D ≠ 0) (hgf : g = false) {z : Int32} : ∃ m', c_X2_drawn F m 49 z = some (jdgo D (jdraw D z).1, m') ∧ xqF xqO m m' ∧ xqC D w m' ∧ jI m' 49 7 = Int32.ofNat (jdraw D z).2 ∧ ∀ R, (jdraw D z).1 = some R → jsd D (fun x => (jDq D).testBit x) R 49 m' := by
  have hgr := (xq_great h hg).1
  rw [hgf] at hgr
  obtain ⟨m', a1, a2, a3, a4, a5, a6, a7⟩ := q_drawn (F := F) hF h.1.1 hq0 h.2.2.1 hgr (z := z)
  obtain ⟨b1, b2⟩ := xqC_dr h a2 a3 a4
  exact ⟨m', a1, b2, b1, a6, fun R hR => (a7 R hR).1⟩
theorem xq_at (hF : 2000 < F) (h : xqQ D w m) {g : Bool} (hg : g = true ↔ jGt D) {x1 : Int64} {x3 : Int32} : ∃ m', c_X9_at F m 32 x1 x3 = some (if jbt2 x3 0 7 = true then (if jDq D = 0 then -3 else if g = true then -5 else if 0 ≤ x1 ∧ x1 < Int64.ofNat (jsp D 4) then jatk D (jlead D x1.toNatClampNeg) x3.toNatClampNeg else -2) else -2, m') ∧ xqF xqO m m' ∧ xqQ D w m' := by
  have hB := h.1
  have hL := hB.2.1.1
  unfold c_X9_at
  rw [xi_c07]
  cases e1 : jbt2 x3 0 7 with
  | false => exact ⟨m, rfl, xqF.rfl, h⟩
  | true =>
    obtain ⟨k, rfl, hk, -, hk7⟩ := jbt2_nat e1
    rw [if_pos rfl, if_pos rfl, jgd_t hL.1, hB.2.2.2.2.1.2.2.2, ji_n hk]
    by_cases hq0 : jDq D = 0
    · rw [if_pos ((jDq_0 hB.1).mpr hq0), if_pos hq0]
      exact ⟨m, rfl, xqF.rfl, h⟩
    rw [if_neg (fun h => hq0 ((jDq_0 hB.1).mp h)), if_neg hq0]
    obtain ⟨m1, a1, a2, a3⟩ := xq_current (F := F) hF h
    have hJ := a3.2.2.1.1.1
    have hgr := xq_great a3 hg
    rw [a1, jb_some]
    dsimp only
    rw [jgd_t hJ.1, hgr.1]
    cases hgg : g with
    | true => exact ⟨m1, rfl, a2, xqC_Q a3⟩
    | false =>
      obtain ⟨-, hs, hsm⟩ := hgr.2 hgg
      rw [if_pos (show jbi false = 0 from rfl), if_neg (show ¬ (false = true) by decide)]
      by_cases h0 : x1 < 0
      · rw [if_pos (jc_lt0.mpr h0), if_neg (fun q => absurd (Int64.lt_of_le_of_lt q.1 h0) Int64.lt_irrefl)]
        exact ⟨m1, rfl, a2, xqC_Q a3⟩
      rw [if_neg (fun q => h0 (jc_lt0.mp q)), hs]
      have h0' : 0 ≤ x1 := Int64.not_lt.mp h0
      by_cases h1 : x1 < Int64.ofNat (jsp D 4)
      · have hx1 : x1 = Int64.ofNat x1.toNatClampNeg := (Int64.ofNat_toNatClampNeg x1 h0').symm
        have hlt : x1.toNatClampNeg < jsp D 4 := by
          have h2 := h1
          have h63 := Int64.toNatClampNeg_lt x1
          rw [hx1] at h2
          exact (Int64.ofNat_lt_iff_lt (by omega) (by unfold jMX at hsm; omega)).mp h2
        obtain ⟨m2, b1, b2, b3, b4⟩ := xq_lead (F := F) hF a3 hg hq0 hgg hlt
        rw [← hx1] at b1
        rw [if_pos (jc_lt0.mpr h1), if_pos ⟨h0', h1⟩, b1, jb_some]
        dsimp only
        have hJ2 := b3.2.2.1.1
        unfold jatk
        by_cases k0 : k = 0
        · rw [if_pos (show Int32.ofNat k = 0 by rw [k0]; rfl), if_pos k0]
          refine ⟨m2, ?_, a2.trans b2, xqC_Q b3⟩
          cases (jlead D x1.toNatClampNeg).isSome <;> rfl
        rw [if_neg (show ¬ Int32.ofNat k = 0 from ji_eqn (b := 0) hk (by omega) k0), if_neg k0]
        cases hR : jlead D x1.toNatClampNeg with
        | none => exact ⟨m2, rfl, a2.trans b2, xqC_Q b3⟩
        | some R =>
          have hsd := b4 R hR
          dsimp only
          rw [if_neg (show ¬ jbi (some R).isSome = 0 from fun q => by cases q)]
          by_cases k1 : k = 1
          · rw [if_pos (show Int32.ofNat k = 1 by rw [k1]; rfl), if_pos k1, jgd_t hJ2.1.1, (q_digits (F := F) (by omega) hJ2 (jDok_q hB.1) b3.2.2.1.2.2.1 hsd).1, jb_some]
            exact ⟨m2, rfl, a2.trans b2, xqC_Q b3⟩
          · rw [if_neg (show ¬ Int32.ofNat k = 1 from ji_eqn (b := 1) hk (by omega) k1), if_neg k1, jgd_t hJ2.1.1, show Int32.ofNat k - 2 = Int32.ofNat (k - 2) from ji_sub (b := 2) (by omega), q_answerValue (by omega) hJ2 hsd, jb_some]
            exact ⟨m2, rfl, a2.trans b2, xqC_Q b3⟩
      · rw [if_neg (fun q => h1 (jc_lt0.mp q)), if_neg (fun q => h1 q.2)]
        exact ⟨m1, rfl, a2, xqC_Q a3⟩
theorem xq_draw (hF : 2000 < F) (h : xqQ D w m) {g : Bool} (hg : g = true ↔ jGt D) {x1 x2 : Int32} : ∃ m', c_X9_draw F m 32 x1 x2 = some (if jbt2 x2 0 1 = true then (if jDq D = 0 then -3 else if g = true then -5 else if jsp D 4 = 0 then -3 else if x2 = 1 then Int32.ofNat (jdraw D x1).2 else jdgo D (jdraw D x1).1) else -2, m') ∧ xqF xqO m m' ∧ xqQ D w m' := by
  have hB := h.1
  have hL := hB.2.1.1
  unfold c_X9_draw
  rw [xi_c01]
  cases e1 : jbt2 x2 0 1 with
  | false => exact ⟨m, rfl, xqF.rfl, h⟩
  | true =>
    obtain ⟨k, rfl, hk, -, hk7⟩ := jbt2_nat e1
    rw [if_pos rfl, if_pos rfl, jgd_t hL.1, hB.2.2.2.2.1.2.2.2]
    by_cases hq0 : jDq D = 0
    · rw [if_pos ((jDq_0 hB.1).mpr hq0), if_pos hq0]
      exact ⟨m, rfl, xqF.rfl, h⟩
    rw [if_neg (fun h => hq0 ((jDq_0 hB.1).mp h)), if_neg hq0]
    obtain ⟨m1, a1, a2, a3⟩ := xq_current (F := F) hF h
    have hJ := a3.2.2.1.1.1
    have hgr := xq_great a3 hg
    rw [a1, jb_some]
    dsimp only
    rw [jgd_t hJ.1, hgr.1]
    cases hgg : g with
    | true => exact ⟨m1, rfl, a2, xqC_Q a3⟩
    | false =>
      obtain ⟨-, hs, hsm⟩ := hgr.2 hgg
      rw [if_pos (show jbi false = 0 from rfl), if_neg (show ¬ (false = true) by decide), hs]
      by_cases h0 : jsp D 4 = 0
      · rw [if_pos (jc_eq0.mpr (by rw [h0]; rfl)), if_pos h0]
        exact ⟨m1, rfl, a2, xqC_Q a3⟩
      · obtain ⟨m2, b1, b2, b3, b4, b5⟩ := xq_drawn (F := F) hF a3 hg hq0 hgg (z := x1)
        rw [if_neg (show ¬ lg_cmp (Int64.ofNat (jsp D 4)) (0 : Int64) = 0 from fun q => h0 ((jq_eq (b := 0) hsm (Nat.zero_le _)).mp (jc_eq0.mp q))), if_neg h0, b1, jb_some]
        dsimp only
        by_cases k0 : k = 0
        · rw [if_pos (show Int32.ofNat k = 0 by rw [k0]; rfl), if_neg (show ¬ Int32.ofNat k = 1 from ji_eqn (b := 1) hk (by omega) (by omega))]
          exact ⟨m2, rfl, a2.trans b2, xqC_Q b3⟩
        · rw [if_neg (show ¬ Int32.ofNat k = 0 from ji_eqn (b := 0) hk (by omega) k0), if_pos (show Int32.ofNat k = 1 by rw [show k = 1 by omega]; rfl), jgd_t b3.2.2.1.1.1.1, b4]
          exact ⟨m2, rfl, a2.trans b2, xqC_Q b3⟩
theorem xq_odds (hF : 2000 < F) (h : xqQ D w m) {g : Bool} (hg : g = true ↔ jGt D) {x1 x2 x3 : Int32} : ∃ m', c_X9_odds F m 32 x1 x2 x3 = some (if jDq D ≠ 0 ∧ g = false then jodds D x1 x2 x3 else -4611686018427387904, m') ∧ xqF xqO m m' ∧ xqQ D w m' := by
  have hB := h.1
  have hL := hB.2.1.1
  unfold c_X9_odds jodds
  rw [jgd_t hL.1, xq_isRow hB, jb_some]
  cases e1 : jrow D x1 x2 with
  | false =>
    refine ⟨m, ?_, xqF.rfl, h⟩
    rw [Bool.false_and, if_neg (show ¬ (false = true ∧ _) from fun h => by cases h.1), ite_self]
    rfl
  | true =>
    obtain ⟨r, k, rfl, rfl, hr, hk, hr2, hk2⟩ := jrow_nat e1
    have hr4 : r < 4 := Nat.lt_of_lt_of_le hr hB.1.1
    have hz := (hB.1.2.2.1 r hr4).2.2.1
    rw [if_neg (show ¬ jbi true = 0 by decide), xq_isPart, jb_some, ji_n hr2, ji_n hk2, Bool.true_and]
    cases e2 : jbt2 x3 0 1 with
    | false =>
      refine ⟨m, ?_, xqF.rfl, h⟩
      rw [Bool.false_and, if_neg (show ¬ (false = true ∧ _) from fun h => by cases h.1), ite_self]
      rfl
    | true =>
      rw [if_neg (show ¬ jbi true = 0 by decide), xq_isAsked hB (by omega), jb_some, Bool.true_and]
      cases e3 : (jDq D).testBit r with
      | false =>
        refine ⟨m, ?_, xqF.rfl, h⟩
        rw [if_neg (show ¬ (false = true ∧ _) from fun h => by cases h.1), ite_self]
        rfl
      | true =>
        obtain ⟨m1, a1, a2, a3, a4⟩ := xq_told (F := F) hF h hg
        have hJ := a3.2.2.1.1.1
        rw [if_neg (show ¬ jbi true = 0 by decide), a1, jb_some]
        dsimp only
        rw [jgd_t hJ.1]
        rcases a4 with ⟨e5, e6, e4⟩ | ⟨e5, e4⟩
        · rw [e4, jb_some, if_neg (show ¬ (1 : Int32) = 0 by decide), jgd_t a3.1.2.1.1.1, xq_cur0 a3, jb_some]
          dsimp only
          obtain ⟨m2, b1, b2, b3, b4⟩ := xq_tally (F := F) hF a3
          have hJ2 := b3.2.2.1.1.1
          rw [jgd_t hJ.1, b1, jb_some, if_pos (show jDq D ≠ 0 ∧ g = false from ⟨e5, e6⟩)]
          dsimp only
          by_cases e7 : Int64.ofNat (jct D jf1) = 0
          · rw [if_pos (jc_eq0.mpr e7), if_neg (fun q => q.2 e7)]
            exact ⟨m2, rfl, a2.trans b2, xqC_Q b3⟩
          · have hu := b4.2 r k hr4 (by omega)
            rw [e3, if_pos rfl] at hu
            obtain ⟨j, d1, d2⟩ := jeuf_get (Int64.ofNat (jct D (jfr1 r k))) (Int64.ofNat (jct D jf1))
            rw [if_neg (fun q => e7 (jc_eq0.mp q)), if_pos ⟨rfl, e7⟩, jgd_t hJ2.1, hJ2.2.2.2.2.2.1, jgd_t hJ2.2.2.2.2.2.2.2.2.2.2.2.2.2.1.1, hJ2.2.2.2.2.2.2.2.2.2.2.2.2.2.1.2, show Int32.ofNat r * (8 : Int32) + Int32.ofNat k = Int32.ofNat (r * 8 + k) by rw [show (8 : Int32) = Int32.ofNat 8 from rfl, ji_mul, ji_add], jgd_t (ji_int (by omega) (by omega)), ji_n (by omega), show jL m2 58 (r * 8 + k) = Int64.ofNat (jct D (jfr1 r k)) from hu, q_partOf (by omega) e7 d1 d2, jb_some]
            exact ⟨m2, rfl, a2.trans b2, xqC_Q b3⟩
        · rw [e4, jb_some, if_pos rfl, if_neg e5]
          exact ⟨m1, rfl, a2, xqC_Q a3⟩
/-- how often answers have a value -/
theorem xq_countWith (hF : 2000 < F) (h : xqC D w m) {a v : Nat} (ha : a < 6) (hv : v < 10) : ∃ m', c_X2_countWith F m 49 (Int32.ofNat a) (Int32.ofNat v) = some (Int64.ofNat (jcw D a v), m') ∧ xqF xqO m m' ∧ xqC D w m' := by
  obtain ⟨m', a1, a2, a3, a4, a5, a6⟩ := q_countWith (F := F) hF (jDok_q h.1.1) ha hv h.2.2.1 h.2.2.2
  obtain ⟨b1, b2⟩ := xqC_ty h a2 a4 a5 a6
  exact ⟨m', a1, b2, b1⟩
theorem xq_values (hF : 2000 < F) (h : xqQ D w m) {g : Bool} (hg : g = true ↔ jGt D) {x1 x2 : Int32} : ∃ m', c_X9_values F m 32 x1 x2 = some (if jDq D ≠ 0 ∧ g = false then jvals D x1 x2 else -4611686018427387904, m') ∧ xqF xqO m m' ∧ xqQ D w m' := by
  have hB := h.1
  have hL := hB.2.1.1
  have h64 := jatn_lt hB.1 4 (by omega)
  unfold c_X9_values jvals jnam
  rw [xi_n10, xi_g6, show jin x1 6 = jbt2 x1 0 5 from (jbt_jin (v := x1) (n := 5)).symm, show jin x2 10 = jbt2 x2 0 9 from (jbt_jin (v := x2) (n := 9)).symm]
  cases e1 : jbt2 x1 0 5 with
  | false =>
    refine ⟨m, ?_, xqF.rfl, h⟩
    rw [Bool.false_and, Bool.false_and, if_neg (show ¬ (false = true) by decide), if_neg (show ¬ (false = true) by decide), ite_self]
  | true =>
    obtain ⟨a, rfl, ha2, -, ha⟩ := jbt2_nat e1
    rw [if_pos rfl, Bool.true_and, ji_n ha2]
    cases e2 : jbt2 x2 0 9 with
    | false =>
      refine ⟨m, ?_, xqF.rfl, h⟩
      rw [Bool.and_false, if_neg (show ¬ (false = true) by decide), if_neg (show ¬ (false = true) by decide), ite_self]
    | true =>
      obtain ⟨v, rfl, hv2, -, hv⟩ := jbt2_nat e2
      rw [if_pos rfl, Bool.and_true, jgd_t hL.1, xq_attrs (by omega) hB, jb_some, q_isIn (by omega) (by omega), jb_some]
      cases e3 : (jatn D 4).testBit a with
      | false =>
        refine ⟨m, ?_, xqF.rfl, h⟩
        rw [if_pos (show jbi false = 0 from rfl), if_neg (show ¬ (false = true) by decide), ite_self]
      | true =>
        obtain ⟨m1, a1, a2, a3, a4⟩ := xq_told (F := F) hF h hg
        have hJ := a3.2.2.1.1.1
        rw [if_neg (show ¬ jbi true = 0 by decide), a1, jb_some]
        dsimp only
        rw [jgd_t hJ.1]
        rcases a4 with ⟨e5, e6, e4⟩ | ⟨e5, e4⟩
        · rw [e4, jb_some, if_neg (show ¬ (1 : Int32) = 0 by decide), jgd_t a3.1.2.1.1.1, xq_cur0 a3, jb_some]
          dsimp only
          obtain ⟨m2, b1, b2, b3⟩ := xq_countWith (F := F) hF a3 (a := a) (v := v) (by omega) (by omega)
          rw [jgd_t hJ.1, b1, jb_some, if_pos (show jDq D ≠ 0 ∧ g = false from ⟨e5, e6⟩), if_pos rfl, jct_jcw hB.1 e5 (by omega) (by omega)]
          exact ⟨m2, rfl, a2.trans b2, xqC_Q b3⟩
        · rw [e4, jb_some, if_pos rfl, if_neg e5]
          exact ⟨m1, rfl, a2, xqC_Q a3⟩
theorem xq_likeliest_l47 (hF : 2000 < F) (hq0 : jDq D ≠ 0) {a : Nat} (ha : a < 6) : ∀ (t v f : Nat) (m : jMe) (b : Int32) (s : Int64), v + t = 10 → t < f → xqC D w m → ∃ m', c_X9_likeliest_l47 F f m 32 (Int32.ofNat a) b s (Int32.ofNat v) = some (m', jlkl (fun v => Int64.ofNat (jct D (jfv1 D a (Int32.ofNat v)))) t v b s) ∧ xqF xqO m m' ∧ xqC D w m' := by
  intro t
  induction t with
  | zero =>
    intro v f m b s h1 h2 hQ
    obtain ⟨f, rfl⟩ := jsucc h2
    refine ⟨m, ?_, xqF.rfl, hQ⟩
    show c_X9_likeliest_l47_b F _ m _ _ _ _ _ = _
    unfold c_X9_likeliest_l47_b
    rw [if_pos (show (10 : Int32) ≤ Int32.ofNat v from ji_lep (a := 10) (by omega) (by omega) (by omega))]
    rfl
  | succ t ih =>
    intro v f m b s h1 h2 hQ
    obtain ⟨f, rfl⟩ := jsucc h2
    show ∃ m', c_X9_likeliest_l47_b F _ m _ _ _ _ _ = _ ∧ _
    unfold c_X9_likeliest_l47_b
    obtain ⟨m1, a1, a2, a3⟩ := xq_countWith (F := F) hF hQ ha (v := v) (by omega)
    rw [if_neg (show ¬ (10 : Int32) ≤ Int32.ofNat v from ji_len (a := 10) (by omega) (by omega) (by omega)), jgd_t hQ.1.2.1.1.1, xq_cur0 hQ, jb_some]
    dsimp only
    rw [jgd_t hQ.2.2.1.1.1.1, a1, jb_some, jlkl, show Int32.ofNat v + 1 = Int32.ofNat (v + 1) from ji_add v 1, jct_jcw hQ.1.1 hq0 ha (by omega)]
    dsimp only
    by_cases e : Int64.ofNat (jcw D a v) ≤ s
    · rw [if_pos (show lg_cmp _ s ≤ 0 from jc_le0.mpr e), if_pos e]
      obtain ⟨m', b1, b2, b3⟩ := ih (v + 1) f m1 b s (by omega) (by omega) a3
      exact ⟨m', b1, a2.trans b2, b3⟩
    · rw [if_neg (show ¬ lg_cmp _ s ≤ 0 from fun h => e (jc_le0.mp h)), if_neg e]
      obtain ⟨m', b1, b2, b3⟩ := ih (v + 1) f m1 (Int32.ofNat v) (Int64.ofNat (jcw D a v)) (by omega) (by omega) a3
      exact ⟨m', b1, a2.trans b2, b3⟩
theorem xq_likeliest (hF : 2000 < F) (h : xqQ D w m) {g : Bool} (hg : g = true ↔ jGt D) {x1 : Int32} : ∃ m', c_X9_likeliest F m 32 x1 = some (if jbt2 x1 0 5 = true then (if jnam D x1 = true then (if jDq D ≠ 0 ∧ g = false then jlikely D x1.toNatClampNeg else -5) else -3) else -2, m') ∧ xqF xqO m m' ∧ xqQ D w m' := by
  have hB := h.1
  have hL := hB.2.1.1
  have h64 := jatn_lt hB.1 4 (by omega)
  unfold c_X9_likeliest jnam
  rw [xi_n6, show jin x1 6 = jbt2 x1 0 5 from (jbt_jin (v := x1) (n := 5)).symm]
  cases e1 : jbt2 x1 0 5 with
  | false => exact ⟨m, rfl, xqF.rfl, h⟩
  | true =>
    obtain ⟨a, rfl, ha2, -, ha⟩ := jbt2_nat e1
    rw [if_pos rfl, if_pos rfl, Bool.true_and, ji_n ha2, jgd_t hL.1, xq_attrs (by omega) hB, jb_some, q_isIn (by omega) (by omega), jb_some]
    cases e3 : (jatn D 4).testBit a with
    | false => exact ⟨m, rfl, xqF.rfl, h⟩
    | true =>
      obtain ⟨m1, a1, a2, a3, a4⟩ := xq_told (F := F) hF h hg
      have hJ := a3.2.2.1.1.1
      rw [if_neg (show ¬ jbi true = 0 by decide), if_pos rfl, a1, jb_some]
      dsimp only
      rw [jgd_t hJ.1]
      rcases a4 with ⟨e5, e6, e4⟩ | ⟨e5, e4⟩
      · rw [e4, jb_some, if_neg (show ¬ (1 : Int32) = 0 by decide), if_pos (show jDq D ≠ 0 ∧ g = false from ⟨e5, e6⟩)]
        obtain ⟨m2, b1, b2, b3⟩ := xq_likeliest_l47 (F := F) hF e5 (a := a) (by omega) 10 0 F m1 (-1) 0 (by omega) (by omega) a3
        have b1 : c_X9_likeliest_l47 F F m1 32 (Int32.ofNat a) (-1 : Int32) (0 : Int64) (0 : Int32) = _ := b1
        rw [b1, jb_some]
        exact ⟨m2, rfl, a2.trans b2, xqC_Q b3⟩
      · rw [e4, jb_some, if_pos rfl, if_neg e5]
        exact ⟨m1, rfl, a2, xqC_Q a3⟩
theorem xq_dangling (hF : 2000 < F) (h : xqQ D w m) {g : Bool} (hg : g = true ↔ jGt D) {x1 : Int32} : ∃ m', c_X9_dangling F m 32 x1 = some (if jin x1 (jDn D) = true then (if (jDq D).testBit x1.toNatClampNeg = true then (if jDq D ≠ 0 ∧ g = false then Int32.ofNat (jbw (jDz D x1.toNatClampNeg) (jdl1 D x1.toNatClampNeg)) else -5) else -3) else -2, m') ∧ xqF xqO m m' ∧ xqQ D w m' := by
  have hB := h.1
  have hL := hB.2.1.1
  have hn := hB.1.1
  unfold c_X9_dangling
  rw [jgd_t hL.1, xq_isRel hB, jb_some]
  cases e1 : jin x1 (jDn D) with
  | false => exact ⟨m, rfl, xqF.rfl, h⟩
  | true =>
    obtain ⟨r, rfl, hr2, hr⟩ := jin_nat e1
    rw [if_neg (show ¬ jbi true = 0 by decide), if_pos rfl, ji_n hr2, xq_isAsked hB (by omega), jb_some]
    cases e3 : (jDq D).testBit r with
    | false => exact ⟨m, rfl, xqF.rfl, h⟩
    | true =>
      obtain ⟨m1, a1, a2, a3, a4⟩ := xq_told (F := F) hF h hg
      have hJ := a3.2.2.1.1.1
      rw [if_neg (show ¬ jbi true = 0 by decide), if_pos rfl, a1, jb_some]
      dsimp only
      rw [jgd_t hJ.1]
      rcases a4 with ⟨e5, e6, e4⟩ | ⟨e5, e4⟩
      · rw [e4, jb_some, if_neg (show ¬ (1 : Int32) = 0 by decide), jgd_t a3.1.2.1.1.1, xq_cur0 a3, jb_some]
        dsimp only
        obtain ⟨m2, b1, b2, b3, b4, b5, b6⟩ := q_unused (F := F) hF (jDok_q hB.1) (r := r) (by omega) e3 a3.2.2.1 a3.2.2.2
        obtain ⟨c1, c2⟩ := xqC_ty a3 b2 b4 b5 b6
        rw [jgd_t hJ.1, b1, jb_some, if_pos (show jDq D ≠ 0 ∧ g = false from ⟨e5, e6⟩)]
        exact ⟨m2, rfl, a2.trans c2, xqC_Q c1⟩
      · rw [e4, jb_some, if_pos rfl, if_neg e5]
        exact ⟨m1, rfl, a2, xqC_Q a3⟩
end XTELL2
