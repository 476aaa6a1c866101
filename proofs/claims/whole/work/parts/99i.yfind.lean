/-! the least position of an answer, as the reference finds it -/
section YFIND
variable {F : Nat} {D : jD} {S : jTS}
def jok4 (D : jD) (R : Nat → Nat) : Prop := ∀ r, r < 4 → (jDq D).testBit r = true → R r < jDz D r ∧ jpb D r (R r) = true
theorem jyRw_Z {D : jD} {P : Nat → Bool} {R : Nat → Nat} {m m' : jMe} (h : ∀ x, jI m' 117 x = jI m 117 x) (k : jyRw D P R m) : jyRw D P R m' := fun r hr hp => ⟨by rw [h]; exact (k r hr hp).1, (k r hr hp).2⟩
theorem y_leastOf_l5 (hF : 100 < F) (hD : jDok D) {R : Nat → Nat} {m : jMe} (hY : jYg D S m) (hw : jyRw D (fun x => (jDq D).testBit x) R m) {r : Nat} (hr : r < 4) (hin : (jDq D).testBit r = true) (hro : r ∈ jord D) {x : Int32} (hx : (jpar D r = none ∧ x = -1) ∨ ∃ u, jpar D r = some u ∧ u < 4 ∧ (jDq D).testBit u = true ∧ x = Int32.ofNat u) {G : jMe → Nat → Int32 → Int32 → Option (Int64 × jMe)} : ∀ (t k f : Nat), k + t = R r → t < f → c_X10_leastOf_l5 F G f m 101 (Int32.ofNat r) x (Int64.ofNat (jsum k (fun k => if jMp D R r k = true then jW1 D r k else 0))) (Int32.ofNat k) = some (m, 101, Int32.ofNat r, Int64.ofNat (jwa D R r)) := by
  have hL := hY.1.1.1
  have hDr := hD.2.2.1 r hr
  have hz := hDr.2.2.1
  obtain ⟨w1, w2⟩ := hw r hr hin
  intro t
  induction t with
  | zero =>
    intro k f h1 h2
    obtain ⟨f, rfl⟩ := jsucc h2
    show c_X10_leastOf_l5_b F G _ m _ _ _ _ _ = _
    unfold c_X10_leastOf_l5_b
    rw [jgd_t hL.1, jp_117 hL, jgd_t (jk_117 hL), jz_117 hL, jgd_t (ji_int (by omega) hr), ji_n (by omega), w1, if_pos (ji_lep (by omega) (by omega) (by omega))]
    unfold jwa
    rw [show k = R r by omega]
  | succ t ih =>
    intro k f h1 h2
    obtain ⟨f, rfl⟩ := jsucc h2
    have ih := ih (k + 1) f (by omega) (by omega)
    rw [jsum_s] at ih
    have hW := ((hY.2.2.2.1 r hro).1 k (by omega)).1
    show c_X10_leastOf_l5_b F G _ m _ _ _ _ _ = _
    unfold c_X10_leastOf_l5_b c_X10_leastOf_j39_l5
    rw [jgd_t hL.1, jp_117 hL, jgd_t (jk_117 hL), jz_117 hL, jgd_t (ji_int (by omega) hr), ji_n (by omega), w1, if_neg (ji_len (by omega) (by omega) (by omega)), jgd_t hL.1, jp_114 hL, jgd_t (jk_114 hL), jz_114 hL, show (8 : Int32) = Int32.ofNat 8 from rfl, ji_mul, ji_add, jgd_t (ji_int (by omega) (by omega)), ji_n (by omega), hW, jq_add, show Int32.ofNat k + 1 = Int32.ofNat (k + 1) from ji_add k 1]
    rcases hx with ⟨p1, p2⟩ | ⟨u, p1, p2, p3, p4⟩
    · rw [if_pos p2]
      have e : jMp D R r k = true := by unfold jMp; rw [p1]
      rw [if_pos e] at ih
      exact ih
    · have hne : ¬ x = -1 := by
        rw [p4]
        have : ∀ a : Fin 4, ¬ Int32.ofNat a.1 = (-1 : Int32) := by decide
        exact this ⟨u, p2⟩
      obtain ⟨v1, v2⟩ := hw u p2 p3
      have e : jMp D R r k = jmt D u (R u) r k := by unfold jMp; rw [p1]
      rw [e] at ih
      rw [if_neg hne, p4, jgd_t (ji_int (by omega) p2), ji_n (by omega), v1, y_isMatching hF hL hY.1.1.2.1 p2 hr (hD.2.2.1 u p2) hDr v2 (by omega), jb_some, show (0 : Int64) = Int64.ofNat 0 from rfl, jq_add]
      rw [p4] at ih
      cases em : jmt D u (R u) r k with
      | false =>
        rw [em, if_neg (by decide)] at ih
        rw [if_pos (show jbi false = 0 from rfl)]
        exact ih
      | true =>
        rw [em, if_pos rfl] at ih
        rw [if_neg (show ¬ jbi true = 0 by decide)]
        exact ih
theorem y_leastOf_l69 (hF : 100 < F) (hD : jDok D) {R : Nat → Nat} (hok : jok4 D R) {r : Nat} (hr : r < 4) (hrk : (jdK D).testBit r = true) (hin : (jDq D).testBit r = true) (hko : ∀ c, c < 4 → jkid D c r = true → c ∈ jord D) {y : Int64} {G : jMe → Nat → Int32 → Int32 → Option (Int64 × jMe)} (hG : ∀ (m : jMe) (c : Nat), c < 4 → jkid D c r = true → jYg D S m → jyRw D (fun x => (jDq D).testBit x) R m → ∃ m', G m 101 (Int32.ofNat c) (Int32.ofNat r) = some (Int64.ofNat (jlst D R 4 c), m') ∧ jy31 m m' ∧ jYg D S m') : ∀ (t c f : Nat) (m : jMe), c + t = 4 → t < f → jYg D S m → jyRw D (fun x => (jDq D).testBit x) R m → ∃ m', c_X10_leastOf_l69 F G f m 101 (Int32.ofNat r) y (Int64.ofNat (jhn D R (jlst D R 4) r c)) (Int32.ofNat c) = some (m', y, Int64.ofNat (jhn D R (jlst D R 4) r 4)) ∧ jy31 m m' ∧ jYg D S m' := by
  have hq := jDok_q hD
  intro t
  induction t with
  | zero =>
    intro c f m h1 h2 hY hw
    obtain ⟨f, rfl⟩ := jsucc h2
    refine ⟨m, ?_, jfx.rfl, hY⟩
    show c_X10_leastOf_l69_b F G _ m _ _ _ _ _ = _
    unfold c_X10_leastOf_l69_b
    rw [if_pos (show (4 : Int32) ≤ Int32.ofNat c from ji_lep (a := 4) (by omega) (by omega) (by omega)), show c = 4 by omega]
  | succ t ih =>
    intro c f m h1 h2 hY hw
    obtain ⟨f, rfl⟩ := jsucc h2
    have hL := hY.1.1.1
    obtain ⟨w1, w2⟩ := hw r hr hin
    show ∃ m', c_X10_leastOf_l69_b F G _ m _ _ _ _ _ = _ ∧ _
    unfold c_X10_leastOf_l69_b
    rw [if_neg (show ¬ (4 : Int32) ≤ Int32.ofNat c from ji_len (a := 4) (by omega) (by omega) (by omega)), jgd_t hL.1, y_childrenOf hF hL hY.1.2.1 hY.1.2.2 hq hr, jb_some, y_kidbit (by omega), show Int32.ofNat c + 1 = Int32.ofNat (c + 1) from ji_add c 1]
    dsimp only
    have hst : jhn D R (jlst D R 4) r (c + 1) = if jkid D c r = true then jhn D R (jlst D R 4) r c * jS1 D r (R r) c + jlst D R 4 c else jhn D R (jlst D R 4) r c := rfl
    cases hk : jkid D c r with
    | false =>
      rw [hk, if_neg (by decide)] at hst
      rw [if_neg (show ¬ jbi false = 1 by decide), ← hst]
      exact ih (c + 1) f m (by omega) (by omega) hY hw
    | true =>
      rw [hk, if_pos rfl] at hst
      obtain ⟨m1, a1, a2, a3⟩ := y_sum_kid (F := F) hF hD hr hrk w2 (hok r hr hin).2 (by omega) hk (hko c (by omega) hk) hY
      have hw1 : jyRw D (fun x => (jDq D).testBit x) R m1 := jyRw_Z (fun x => a2.I (by omega)) hw
      obtain ⟨m2, b1, b2, b3⟩ := hG m1 c (by omega) hk a3 hw1
      have hw2 : jyRw D (fun x => (jDq D).testBit x) R m2 := jyRw_Z (fun x => b2.I (by omega)) hw1
      rw [if_pos (show jbi true = 1 from rfl), jp_117 hL, jgd_t (jk_117 hL), jz_117 hL, jgd_t (ji_int (by omega) hr), ji_n (by omega), w1, a1, jb_some]
      dsimp only
      rw [jgd_t a3.1.1.1.1, b1, jb_some, jq_mul, jq_add, ← hst]
      obtain ⟨m', c1, c2, c3⟩ := ih (c + 1) f m2 (by omega) (by omega) b3 hw2
      exact ⟨m', c1, (a2.trans b2).trans c2, c3⟩
theorem y_leastOf (hF : 100 < F) (hD : jDok D) {R : Nat → Nat} (hok : jok4 D R) {root : Nat} (hT : jTre (jDa D) (jdK D) root (jpar D) (jord D)) : ∀ (n : Nat) (pre : List Nat) (r : Nat) (post : List Nat) (K : Nat) (m : jMe) (x : Int32), pre.length ≤ n → jord D = pre ++ r :: post → n < K → jYg D S m → jyRw D (fun x => (jDq D).testBit x) R m → ((jpar D r = none ∧ x = -1) ∨ ∃ u, jpar D r = some u ∧ u < 4 ∧ (jDq D).testBit u = true ∧ x = Int32.ofNat u) → ∃ m', c_X10_leastOf F K m 101 (Int32.ofNat r) x = some (Int64.ofNat (jlst D R 4 r), m') ∧ jy31 m m' ∧ jYg D S m' := by
  intro n
  induction n with
  | zero =>
    intro pre r post K m x h1 h2 h3 hY hw hx
    obtain ⟨K, rfl⟩ := jsucc h3
    have hpe : pre = [] := List.eq_nil_of_length_eq_zero (by omega)
    have hro : r ∈ jord D := by rw [h2]; simp
    obtain ⟨hr, hrk⟩ := (hT.2.1 r).mp hro
    have hin := (jdK_bits (D := D) r hr).1 hrk
    have hkno : ∀ c, c < 4 → jkid D c r = true → False := fun c hc hk => by
      have := jTr_kids hT h2 hc hk
      rw [hpe] at this
      cases this
    have a := y_leastOf_l5 (F := F) hF hD hY hw hr hin hro hx (G := fun m x0 x1 x2 => c_X10_leastOf F K m x0 x1 x2) (R r) 0 F (by omega) (by have := (hw r hr hin).2; have := (hD.2.2.1 r hr).2.2.1; omega)
    have a : c_X10_leastOf_l5 F _ F m 101 (Int32.ofNat r) x (0 : Int64) (0 : Int32) = _ := a
    obtain ⟨m1, b1, b2, b3⟩ := y_leastOf_l69 (F := F) (S := S) hF hD hok hr hrk hin (fun c hc hk => (hkno c hc hk).elim) (y := Int64.ofNat (jwa D R r)) (G := fun m x0 x1 x2 => c_X10_leastOf F K m x0 x1 x2) (fun m c hc hk _ _ => (hkno c hc hk).elim) 4 0 F m (by omega) (by omega) hY hw
    have b1 : c_X10_leastOf_l69 F _ F m 101 (Int32.ofNat r) (Int64.ofNat (jwa D R r)) (0 : Int64) (0 : Int32) = _ := b1
    refine ⟨m1, ?_, b2, b3⟩
    show c_X10_leastOf_b F _ m 101 (Int32.ofNat r) x = _
    unfold c_X10_leastOf_b
    rw [a, jb_some]
    dsimp only
    rw [b1, jb_some, jlst_e hT hro, jq_add]
  | succ n ih =>
    intro pre r post K m x h1 h2 h3 hY hw hx
    obtain ⟨K, rfl⟩ := jsucc (show 0 < K by omega)
    have hro : r ∈ jord D := by rw [h2]; simp
    obtain ⟨hr, hrk⟩ := (hT.2.1 r).mp hro
    have hin := (jdK_bits (D := D) r hr).1 hrk
    have hG : ∀ (m : jMe) (c : Nat), c < 4 → jkid D c r = true → jYg D S m → jyRw D (fun x => (jDq D).testBit x) R m → ∃ m', c_X10_leastOf F K m 101 (Int32.ofNat c) (Int32.ofNat r) = some (Int64.ofNat (jlst D R 4 c), m') ∧ jy31 m m' ∧ jYg D S m' := by
      intro m c hc hk hY hw
      have hcp := jTr_kids hT h2 hc hk
      obtain ⟨p1, p2, e2⟩ := List.append_of_mem hcp
      have hpc : jpar D c = some r := by
        unfold jkid at hk
        rw [Bool.and_eq_true, beq_iff_eq] at hk
        exact hk.2
      subst e2
      refine ih p1 c (p2 ++ r :: post) K m _ ?_ ?_ (by omega) hY hw (Or.inr ⟨r, hpc, hr, hin, rfl⟩)
      · simp at h1
        omega
      · rw [h2]
        simp
    have hko : ∀ c, c < 4 → jkid D c r = true → c ∈ jord D := fun c hc hk => by
      have := jTr_kids hT h2 hc hk
      rw [h2]
      exact List.mem_append_left _ this
    have a := y_leastOf_l5 (F := F) hF hD hY hw hr hin hro hx (G := fun m x0 x1 x2 => c_X10_leastOf F K m x0 x1 x2) (R r) 0 F (by omega) (by have := (hw r hr hin).2; have := (hD.2.2.1 r hr).2.2.1; omega)
    have a : c_X10_leastOf_l5 F _ F m 101 (Int32.ofNat r) x (0 : Int64) (0 : Int32) = _ := a
    obtain ⟨m1, b1, b2, b3⟩ := y_leastOf_l69 (F := F) (S := S) hF hD hok hr hrk hin hko (y := Int64.ofNat (jwa D R r)) (G := fun m x0 x1 x2 => c_X10_leastOf F K m x0 x1 x2) hG 4 0 F m (by omega) (by omega) hY hw
    have b1 : c_X10_leastOf_l69 F _ F m 101 (Int32.ofNat r) (Int64.ofNat (jwa D R r)) (0 : Int64) (0 : Int32) = _ := b1
    refine ⟨m1, ?_, b2, b3⟩
    show c_X10_leastOf_b F _ m 101 (Int32.ofNat r) x = _
    unfold c_X10_leastOf_b
    rw [a, jb_some]
    dsimp only
    rw [b1, jb_some, jlst_e hT hro, jq_add]
end YFIND
