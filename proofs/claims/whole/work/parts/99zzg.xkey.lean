/-! key, as the class does it -/
def juse (D : jD) (i : Nat) : Nat := jct D (jfr1 (i / 8) (i % 8))
def jckst (D : jD) (i : Nat) (o : Option Nat) : Option Nat := if ((jDq D).testBit (i / 8) && (jDl D (i / 8)).testBit (i % 8)) = true then (match o with
  | none => some i
  | some j => if Int64.ofNat (juse D i) ≤ Int64.ofNat (juse D j) then some j else some i) else o
def jckl (D : jD) : Nat → Nat → Option Nat → Option Nat
  | 0, _, o => o
  | t + 1, i, o => jckl D t (i + 1) (jckst D i o)
theorem jckl_add {D : jD} : ∀ (a b i : Nat) (o : Option Nat), jckl D (a + b) i o = jckl D b (i + a) (jckl D a i o) := by
  intro a
  induction a with
  | zero => intro b i o; rw [Nat.zero_add]; rfl
  | succ a ih =>
    intro b i o
    rw [show a + 1 + b = (a + b) + 1 by omega, jckl, jckl, ih, show i + 1 + a = i + (a + 1) by omega]
theorem jckl_no {D : jD} : ∀ (t i : Nat) (o : Option Nat), (∀ j, i ≤ j → j < i + t → ((jDq D).testBit (j / 8) && (jDl D (j / 8)).testBit (j % 8)) = false) → jckl D t i o = o := by
  intro t
  induction t with
  | zero => intro i o _; rfl
  | succ t ih =>
    intro i o h
    have h0 : jckst D i o = o := by
      unfold jckst
      rw [h i (Nat.le_refl _) (by omega), if_neg (by decide)]
    rw [jckl, h0]
    exact ih (i + 1) o (fun j h1 h2 => h j (by omega) (by omega))
def jckok (D : jD) (o : Option Nat) : Prop := ∀ j, o = some j → j < 32 ∧ (jDq D).testBit (j / 8) = true
theorem jckst_ok {D : jD} {i : Nat} {o : Option Nat} (hi : i < 32) (h : jckok D o) : jckok D (jckst D i o) := by
  unfold jckst
  by_cases e : ((jDq D).testBit (i / 8) && (jDl D (i / 8)).testBit (i % 8)) = true
  · rw [if_pos e]
    rw [Bool.and_eq_true] at e
    cases o with
    | none =>
      intro j q
      have : i = j := Option.some.inj q
      rw [← this]
      exact ⟨hi, e.1⟩
    | some x =>
      dsimp only
      by_cases e2 : Int64.ofNat (juse D i) ≤ Int64.ofNat (juse D x)
      · rw [if_pos e2]
        exact h
      · rw [if_neg e2]
        intro j q
        have : i = j := Option.some.inj q
        rw [← this]
        exact ⟨hi, e.1⟩
  · rw [if_neg e]
    exact h
section XKEY
variable {F w : Nat} {D : jD} {m : jMe}
theorem xq_key_l39 (h : xqC D w m) (hty : jTly D 49 m) {y1 : Int32} {y3 : Int64} : ∀ (t i f : Nat) (o : Option Nat), i + t = 32 → t < f → jckok D o → c_X9_key_l39 F f m 32 y1 49 y3 (jo1 o) (Int32.ofNat i) = some (m, y1, 49, y3, jo1 (jckl D t i o)) ∧ jckok D (jckl D t i o) := by
  have hB := h.1
  have hL := hB.2.1.1
  have hR := hB.2.1.2.1.1
  have hJ := h.2.2.1.1.1
  intro t
  induction t with
  | zero =>
    intro i f o h1 h2 ho
    obtain ⟨f, rfl⟩ := jsucc h2
    refine ⟨?_, ho⟩
    show c_X9_key_l39_b F _ m _ _ _ _ _ _ = _
    unfold c_X9_key_l39_b
    rw [if_pos (show (32 : Int32) ≤ Int32.ofNat i from ji_lep (a := 32) (by omega) (by omega) (by omega))]
    rfl
  | succ t ih =>
    intro i f o h1 h2 ho
    obtain ⟨f, rfl⟩ := jsucc h2
    have hi : i < 32 := by omega
    have hr4 : i / 8 < 4 := by omega
    obtain ⟨-, i1, i2⟩ := jit_n ⟨i, hi⟩
    have i1 : Int32.ofNat i / (8 : Int32) = Int32.ofNat (i / 8) := i1
    have i2 : jrem (Int32.ofNat i) (8 : Int32) = Int32.ofNat (i % 8) := i2
    have hrr := xq_rel hB hr4
    obtain ⟨a1, a2⟩ := ih (i + 1) f (jckst D i o) (by omega) (by omega) (jckst_ok hi ho)
    refine ⟨?_, a2⟩
    rw [jckl]
    have hj : c_X9_key_j84_l39 F (fun m y0 y1 y2 y3 y5 y6 => c_X9_key_l39 F f m y0 y1 y2 y3 y5 y6) m 32 y1 49 y3 (jo1 o) (Int32.ofNat i) (jbi ((jDq D).testBit (i / 8) && (jDl D (i / 8)).testBit (i % 8))) = some (m, y1, 49, y3, jo1 (jckl D t (i + 1) (jckst D i o))) := by
      rw [← a1]
      unfold c_X9_key_j84_l39 jckst
      rw [show Int32.ofNat i + 1 = Int32.ofNat (i + 1) from ji_add i 1]
      by_cases e : ((jDq D).testBit (i / 8) && (jDl D (i / 8)).testBit (i % 8)) = true
      · rw [e, if_neg (show ¬ jbi true = 0 by decide), if_pos rfl]
        rw [Bool.and_eq_true] at e
        cases o with
        | none => rfl
        | some j =>
          obtain ⟨j1, j2⟩ := ho j rfl
          have u1 : jL m 58 i = Int64.ofNat (juse D i) := by
            have := hty.2 (i / 8) (i % 8) hr4 (by omega)
            rw [if_pos e.1, show i / 8 * 8 + i % 8 = i by omega] at this
            exact this
          have u2 : jL m 58 j = Int64.ofNat (juse D j) := by
            have := hty.2 (j / 8) (j % 8) (by omega) (by omega)
            rw [if_pos j2, show j / 8 * 8 + j % 8 = j by omega] at this
            exact this
          have hP : jP m 49 4 = 58 := hJ.2.2.2.2.2.1
          have hK : jK m 58 = 2 := hJ.2.2.2.2.2.2.2.2.2.2.2.2.2.1.1
          have hZ : jZ m 58 = 32 := hJ.2.2.2.2.2.2.2.2.2.2.2.2.2.1.2
          show (if Int32.ofNat j = -1 then _ else _) = _
          rw [if_neg (show ¬ Int32.ofNat j = -1 from ji_ne1 (by omega)), jgd_t hJ.1, hP, jgd_t hK, hZ, jgd_t (ji_int (by omega) hi)]
          show jgd (jin (Int32.ofNat j) 32 = true) (if lg_cmp (jL m 58 (Int32.ofNat i).toNatClampNeg) (jL m 58 (Int32.ofNat j).toNatClampNeg) ≤ 0 then _ else _) = _
          rw [jgd_t (ji_int (by omega) j1), ji_n (by omega), ji_n (by omega), u1, u2]
          dsimp only
          by_cases e2 : Int64.ofNat (juse D i) ≤ Int64.ofNat (juse D j)
          · rw [if_pos (jc_le0.mpr e2), if_pos e2]
          · rw [if_neg (fun q => e2 (jc_le0.mp q)), if_neg e2]
            rfl
      · rw [Bool.eq_false_iff.mpr e, if_pos (show jbi false = 0 from rfl), if_neg (by decide)]
    show c_X9_key_l39_b F _ m _ _ _ _ _ _ = _
    unfold c_X9_key_l39_b
    rw [if_neg (show ¬ (32 : Int32) ≤ Int32.ofNat i from ji_len (a := 32) (by omega) (by omega) (by omega)), jgd_t hL.1, i1, i2, xq_isAsked hB (by omega), jb_some]
    cases e1 : (jDq D).testBit (i / 8) with
    | false =>
      rw [e1] at hj
      rw [if_pos (show jbi false = 0 from rfl)]
      exact hj
    | true =>
      rw [e1] at hj
      rw [if_neg (show ¬ jbi true = 0 by decide), hL.2.1, jgd_t hR.1, hR.2.1, jgd_t (ji_int (by omega) hr4), ji_n (by omega), hrr.1, jgd_t hrr.2.1, q_isLive hrr.2 (hB.1.2.2.1 _ hr4) (hB.2.2.2.1 _ hr4) (by omega), jb_some]
      cases e2 : (jDl D (i / 8)).testBit (i % 8) with
      | false =>
        rw [e2] at hj
        rw [if_pos (show jbi false = 0 from rfl)]
        exact hj
      | true =>
        rw [e2] at hj
        rw [if_neg (show ¬ jbi true = 0 by decide)]
        exact hj
/-! .. that is as the reference does it -/
/-- the best so far, on both sides -/
def jkrel (D : jD) (o : Option Nat) (s : Int64 × Int64) : Prop := (o = none ∧ s.1 = -4611686018427387904) ∨ ∃ j, o = some j ∧ j < 32 ∧ (jDq D).testBit (j / 8) = true ∧ juse D j ≤ jct D jf1 ∧ s = (Int64.ofNat j, Int64.ofNat (jct D jf1 - juse D j))
theorem jq_no {v : Nat} (h : v ≤ jMX) : Int64.ofNat v ≠ -4611686018427387904 := by
  intro q
  have h1 : (0 : Int64) ≤ Int64.ofNat v := (jq_le (a := 0) (by unfold jMX; omega) h).mpr (Nat.zero_le v)
  rw [q] at h1
  exact absurd h1 (by decide)
theorem jkrel_st (hD : jDok D) (hq0 : jDq D ≠ 0) (hg : jgB D = false) {r k : Nat} (hr : r < 4) (hq : (jDq D).testBit r = true) (hk : k < jDz D r) {o : Option Nat} {s : Int64 × Int64} (h : jkrel D o s) : jkrel D (jckst D (8 * r + k) o) (jkst (jcwo D (fun r k => jgB (jwD D r k)) r k) (Int64.ofNat (8 * r + k)) s) := by
  have hz := (hD.2.2.1 r hr).2.2.1
  have hM : jct D jf1 ≤ jMX := Nat.le_trans (jct_le hD) (jsp_MX hg)
  have d1 : (8 * r + k) / 8 = r := by omega
  have d2 : (8 * r + k) % 8 = k := by omega
  have hp := jct_part hD hq0 hr hq hk
  have hu : juse D (8 * r + k) = jct D (jfr1 r k) := by unfold juse; rw [d1, d2]
  unfold jckst jkst jcwo
  rw [d1, d2, hq, Bool.true_and]
  cases e : (jDl D r).testBit k with
  | false =>
    rw [if_neg (by decide), if_neg (show ¬ (false = true ∧ _) from fun q => by cases q.1), if_pos rfl]
    exact h
  | true =>
    have hv : jct (jwD D r k) jf1 = jct D jf1 - juse D (8 * r + k) := by omega
    have hule : juse D (8 * r + k) ≤ jct D jf1 := by omega
    rw [if_pos rfl, if_pos (show true = true ∧ jgB (jwD D r k) = false from ⟨rfl, jgB_w hg⟩), if_neg (jq_no (by omega)), hv]
    rcases h with ⟨h1, h2⟩ | ⟨j, h1, h2, h3, h4, h5⟩
    · rw [h1, if_pos h2]
      exact Or.inr ⟨8 * r + k, rfl, by omega, by rw [d1]; exact hq, hule, rfl⟩
    · rw [h1, h5]
      dsimp only
      rw [if_neg (jq_no (by unfold jMX; omega))]
      by_cases e2 : juse D (8 * r + k) ≤ juse D j
      · rw [if_pos ((jq_le (by omega) (by omega)).mpr e2), if_pos ((jq_le (by omega) (by omega)).mpr (by omega))]
        exact Or.inr ⟨j, rfl, h2, h3, h4, rfl⟩
      · rw [if_neg (fun q => e2 ((jq_le (by omega) (by omega)).mp q)), if_neg (fun q => e2 (by have := (jq_le (a := jct D jf1 - juse D j) (b := jct D jf1 - juse D (8 * r + k)) (by omega) (by omega)).mp q; omega))]
        exact Or.inr ⟨8 * r + k, rfl, by omega, by rw [d1]; exact hq, hule, rfl⟩
theorem jkrel_40 (hD : jDok D) (hq0 : jDq D ≠ 0) (hg : jgB D = false) {r : Nat} (hr : r < 4) (hq : (jDq D).testBit r = true) : ∀ (t k : Nat) (o : Option Nat) (s : Int64 × Int64), k + t = jDz D r → jkrel D o s → jkrel D (jckl D t (8 * r + k) o) (jk40 D (fun r k => jgB (jwD D r k)) r t k s) := by
  intro t
  induction t with
  | zero => intro k o s _ h; exact h
  | succ t ih =>
    intro k o s h1 h
    rw [jckl, jk40, show 8 * r + k + 1 = 8 * r + (k + 1) by omega]
    exact ih (k + 1) _ _ (by omega) (jkrel_st hD hq0 hg hr hq (by omega) h)
theorem jkrel_31 (hD : jDok D) (hq0 : jDq D ≠ 0) (hg : jgB D = false) : ∀ (t r : Nat) (o : Option Nat) (s : Int64 × Int64), r + t = 4 → jkrel D o s → jkrel D (jckl D (8 * t) (8 * r) o) (jk31 D (fun r k => jgB (jwD D r k)) t r s) := by
  intro t
  induction t with
  | zero => intro r o s _ h; exact h
  | succ t ih =>
    intro r o s h1 h
    have hr : r < 4 := by omega
    have hz := (hD.2.2.1 r hr).2.2.1
    rw [show 8 * (t + 1) = 8 + 8 * t by omega, jckl_add, show 8 * r + 8 = 8 * (r + 1) by omega, jk31]
    refine ih (r + 1) _ _ (by omega) ?_
    by_cases e : (jDq D).testBit r = true
    · rw [if_pos e, show 8 = jDz D r + (8 - jDz D r) by omega, jckl_add]
      have h40 := jkrel_40 hD hq0 hg hr e (jDz D r) 0 o s (by omega) h
      rw [Nat.add_zero] at h40
      rw [show (jDz D r + (8 - jDz D r)) = 8 by omega, jckl_no _ _ _ (fun j j1 j2 => ?_)]
      · exact h40
      · rw [show j / 8 = r by omega, jl_bits (hD.2.2.1 r hr) (show jDz D r ≤ j % 8 by omega), Bool.and_false]
    · rw [if_neg e, jckl_no _ _ _ (fun j j1 j2 => ?_)]
      · exact h
      · rw [show j / 8 = r by omega, Bool.eq_false_iff.mpr e, Bool.false_and]
theorem xq_key (hF : 2000 < F) (h : xqQ D w m) {x1 : Int32} : ∃ m', c_X9_key F m 32 x1 = some (if jbt2 x1 0 1 = true ∧ jDq D ≠ 0 ∧ jgB D = false then jkey1 D (fun r k => jgB (jwD D r k)) x1 else -4611686018427387904, m') ∧ xqF xqO m m' ∧ xqQ D w m' := by
  have hL := h.1.2.1.1
  unfold c_X9_key
  rw [xi_b1]
  cases e1 : jbt2 x1 0 1 with
  | false =>
    refine ⟨m, ?_, xqF.rfl, h⟩
    rw [if_neg (by decide), if_neg (show ¬ (false = true ∧ _) from fun q => by cases q.1)]
  | true =>
    obtain ⟨m1, a1, a2, a3, a4⟩ := xq_told (F := F) hF h (g := jgB D) jgB_iff
    have hJ := a3.2.2.1.1.1
    have hL1 := a3.1.2.1.1
    rw [if_pos rfl, jgd_t hL.1, a1, jb_some]
    dsimp only
    rw [jgd_t hJ.1]
    rcases a4 with ⟨e2, e3, e4⟩ | ⟨e2, e4⟩
    · obtain ⟨m2, b1, b2, b3, b4⟩ := xq_tally (F := F) hF a3
      have hJ2 := b3.2.2.1.1.1
      have hM : jct D jf1 ≤ jMX := Nat.le_trans (jct_le a3.1.1) (jsp_MX e3)
      obtain ⟨c1, c2⟩ := xq_key_l39 (F := F) b3 b4 (y1 := x1) (y3 := Int64.ofNat (jct D jf1)) 32 0 F none (by omega) (by omega) (fun j q => by cases q)
      have c1 : c_X9_key_l39 F F m2 32 x1 49 (Int64.ofNat (jct D jf1)) (-1 : Int32) (0 : Int32) = _ := c1
      have hrel := jkrel_31 a3.1.1 e2 e3 4 0 none (-4611686018427387904, 0) (by omega) (Or.inl ⟨rfl, rfl⟩)
      have hrel : jkrel D (jckl D 32 0 none) (jk31 D (fun r k => jgB (jwD D r k)) 4 0 (-4611686018427387904, 0)) := hrel
      rw [e4, jb_some, if_neg (show ¬ (1 : Int32) = 0 by decide), jgd_t hL1.1, xq_cur0 a3, jb_some]
      dsimp only
      rw [jgd_t hJ.1, b1, jb_some]
      dsimp only
      rw [c1, jb_some, if_pos (show true = true ∧ jDq D ≠ 0 ∧ jgB D = false from ⟨rfl, e2, e3⟩)]
      dsimp only
      refine ⟨m2, ?_, a2.trans b2, xqC_Q b3⟩
      unfold jkey1
      rcases hrel with ⟨r1, r2⟩ | ⟨j, r1, r2, r3, r4, r5⟩
      · rw [r1, if_pos (show jo1 none = -1 from rfl), if_pos r2]
      · have hn : ¬ jo1 (some j) = -1 := ji_ne1 (by omega)
        rw [r1, if_neg hn, r5]
        dsimp only
        rw [if_neg (jq_no (show j ≤ jMX by unfold jMX; omega))]
        by_cases e5 : x1 = 0
        · rw [if_pos e5, if_pos e5]
          show some (Int32.toInt64 (Int32.ofNat j), m2) = _
          rw [jt64 (by omega)]
        · have u2 : jL m2 58 j = Int64.ofNat (juse D j) := by
            have := b4.2 (j / 8) (j % 8) (by omega) (by omega)
            rw [if_pos r3, show j / 8 * 8 + j % 8 = j by omega] at this
            exact this
          have hP : jP m2 49 4 = 58 := hJ2.2.2.2.2.2.1
          have hK : jK m2 58 = 2 := hJ2.2.2.2.2.2.2.2.2.2.2.2.2.2.1.1
          have hZ : jZ m2 58 = 32 := hJ2.2.2.2.2.2.2.2.2.2.2.2.2.2.1.2
          rw [if_neg e5, if_neg e5, jgd_t hJ2.1, hP, jgd_t hK, hZ, jgd_t (show jin (jo1 (some j)) 32 = true from ji_int (by omega) r2), show (jo1 (some j)).toNatClampNeg = j from ji_n (by omega), u2, jq_sub r4]
    · rw [e4, jb_some, if_pos rfl, if_neg (fun q => e2 q.2)]
      exact ⟨m1, rfl, a2, xqC_Q a3⟩
end XKEY
