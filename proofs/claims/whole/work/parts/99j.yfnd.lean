/-! find, as the reference does it -/
section YFND
variable {F : Nat} {D : jD} {S : jTS}
/-- digits told into rows: from relation t - 1 down -/
def jfdg (D : jD) : Nat → Int32 → (Nat → Nat) → Option ((Nat → Nat) × Int32)
  | 0, y, R => some (R, y)
  | t + 1, y, R => if (jDq D).testBit t = true then (if jin (jrem y 10 - 1) (jDz D t) = true then jfdg D t (y / 10) (jRr R t (jrem y 10 - 1).toNatClampNeg) else none) else jfdg D t y R
/-- the least position of an answer -/
def jfind (D : jD) (y : Int32) : Option Nat := match jfdg D 4 y (fun _ => 0) with
  | none => none
  | some (R, y) => if y = 0 ∧ jall4 (jok D R) = true then some (jplc1 D R) else none
/-- what the reference keeps between calls -/
def jyQ (D : jD) (S : jTS) (m : jMe) : Prop := jRf D S m ∧ (∃ x, x < 4 ∧ jI m 101 29 = Int32.ofNat x) ∧ jI m 101 37 = -1 ∧ jI m 101 39 = -1
/-- what calls that tell may change -/
def jyO (a i : Nat) : Prop := (a = 101 ∧ ((15 ≤ i ∧ i ≤ 25) ∨ i = 29 ∨ i = 30 ∨ i = 31 ∨ i = 35 ∨ (37 ≤ i ∧ i ≤ 41) ∨ i = 43 ∨ i = 44 ∨ i = 47)) ∨ (111 ≤ a ∧ a ≤ 120)
theorem jyO_srk {a i : Nat} (h : jSrk a i) : jyO a i := by unfold jSrk at h; unfold jyO; omega
theorem jyO_spp {a i : Nat} (h : jSpp a i) : jyO a i := by unfold jSpp at h; unfold jyO; omega
theorem jyO_fc {a i : Nat} (h : jyFc a i) : jyO a i := by unfold jyFc jSpp at h; unfold jyO; omega
theorem y_isTold (hF : 1000 < F) (hDS : jDS D S) {g : Bool} (hg : g = true ↔ jGt D) {m : jMe} (hQ : jyQ D S m) : ∃ m', c_X10_isTold F m 101 = some (jbi (!decide (jDq D = 0) && !g), m') ∧ jfx jyO m m' ∧ jYJ D S m' ∧ jyQ D S m' := by
  obtain ⟨hR, ⟨x, hx4, hx⟩, h37, h39⟩ := hQ
  obtain ⟨m', a1, a2, a3⟩ := y_reckons (F := F) hF hDS hR hx hx4
  refine ⟨m', ?_, a2.weak (fun a i h => jyO_srk h), a3, a3.1.1, a3.1.2.1.2.2, by rw [a2.I (by unfold jSrk; omega)]; exact h37, by rw [a2.I (by unfold jSrk; omega)]; exact h39⟩
  unfold c_X10_isTold
  have hL := a3.1.1.1
  have hq16 := jDok_q hDS.1
  obtain ⟨g', g1, g2, _⟩ := a3.2.2
  have : g' = g := by
    cases g' <;> cases g <;> first | rfl | (exfalso; have := g2.trans hg.symm; simp at this)
  subst this
  rw [jgd_t hR.1.1, a1, jb_some, jgd_t hL.1, a3.1.1.2.1.2.2.1, g1]
  by_cases e : jDq D = 0
  · rw [if_pos (by rw [e]; rfl), decide_eq_true e]
    rfl
  · rw [if_neg (show ¬ Int32.ofNat (jDq D) = 0 from ji_eqn (b := 0) (by omega) (by omega) e), decide_eq_false e]
    cases g' <;> rfl
theorem jrow_i (hD : jDok D) {t : Nat} (ht : t < 4) {v : Int32} : jrow D (Int32.ofNat t) v = jin v (jDz D t) := by
  unfold jrow
  rw [ji_n (by omega)]
  have h4 := hD.1
  by_cases e : t < jDn D
  · rw [ji_int (by omega) e]
    rfl
  · rw [(hD.2.2.2.2 t (by omega)).1]
    have : jin v 0 = false := by
      cases h : jin v 0 with
      | false => rfl
      | true =>
        obtain ⟨k, _, _, h3⟩ := jin_nat h
        omega
    rw [this, Bool.and_false]
theorem y_find_l15 (hD : jDok D) : ∀ (t f : Nat) (y : Int32) (m : jMe) (R : Nat → Nat), t ≤ 4 → t < f → jRf D S m → jyRw D (fun x => (jDq D).testBit x && decide (t ≤ x)) R m → ∃ z, c_X10_find_l15 F f m 101 y (Int32.ofNat t - 1) = some z ∧ ∃ m', jfx (fun a _ => a = 117) m m' ∧ jRf D S m' ∧ (match jfdg D t y R with
    | none => z = .inl (-4611686018427387904, m')
    | some (R', y') => z = .inr (m', 101, y') ∧ jyRw D (fun x => (jDq D).testBit x) R' m') := by
  have hq := jDok_q hD
  intro t
  induction t with
  | zero =>
    intro f y m R h1 h2 hR hw
    obtain ⟨f, rfl⟩ := jsucc h2
    refine ⟨.inr (m, 101, y), ?_, m, jfx.rfl, hR, rfl, fun r hr hp => hw r hr (by show ((jDq D).testBit r && decide (0 ≤ r)) = true; rw [show (jDq D).testBit r = true from hp]; simp)⟩
    show c_X10_find_l15_b F _ m _ _ _ = _
    unfold c_X10_find_l15_b
    rw [if_pos jdown0]
  | succ t ih =>
    intro f y m R h1 h2 hR hw
    obtain ⟨f, rfl⟩ := jsucc h2
    have hL := hR.1
    have hz := (hD.2.2.1 t (by omega)).2.2.1
    show ∃ z, c_X10_find_l15_b F _ m _ _ _ = _ ∧ _
    unfold c_X10_find_l15_b
    rw [jdown_s, if_neg (ji_ge0 (by omega)), jgd_t hL.1, y_isIn hL hR.2.1 hq (by omega), jb_some, jdown, jfdg]
    cases e : (jDq D).testBit t with
    | false =>
      rw [if_pos (show jbi false = 0 from rfl), if_neg (by decide)]
      refine ih f y m R (by omega) (by omega) hR (fun r hr hp => hw r hr ?_)
      rw [Bool.and_eq_true, decide_eq_true_eq] at hp ⊢
      refine ⟨hp.1, ?_⟩
      by_cases e2 : r = t
      · rw [e2, e] at hp
        cases hp.1
      · omega
    | true =>
      rw [if_neg (show ¬ jbi true = 0 by decide), if_pos rfl, jp_117 hL, jgd_t (jk_117 hL), jz_117 hL, jgd_t (ji_int (by omega) (by omega)), ji_n (by omega)]
      have hx1 : jfx (fun a _ => a = 117) m (jsI m 117 t (jrem y 10 - 1)) := jfx_I rfl
      have hv1 : jI (jsI m 117 t (jrem y 10 - 1)) 117 t = jrem y 10 - 1 := jsI_y
      have ho1 : ∀ x, x ≠ t → jI (jsI m 117 t (jrem y 10 - 1)) 117 x = jI m 117 x := fun x hx => jsI_no (by omega)
      generalize jsI m 117 t (jrem y 10 - 1) = m1 at hx1 hv1 ho1 ⊢
      have hR1 : jRf D S m1 := jRf_fx hx1 (fun a i q => by unfold jSr at q; omega) hR
      have hL1 := hR1.1
      rw [jp_117 hL1, jgd_t (jk_117 hL), jgd_t (show jin (Int32.ofNat t) (jZ m 117) = true by rw [jz_117 hL]; exact ji_int (by omega) (by omega)), hv1, y_isRow hL1 hR1.2.1 hD, jb_some, jrow_i hD (by omega)]
      cases e2 : jin (jrem y 10 - 1) (jDz D t) with
      | false =>
        rw [if_pos (show jbi false = 0 from rfl), if_neg (by decide)]
        exact ⟨_, rfl, m1, hx1, hR1, rfl⟩
      | true =>
        rw [if_neg (show ¬ jbi true = 0 by decide), if_pos rfl]
        obtain ⟨k, k1, k2, k3⟩ := jin_nat e2
        have hk : (jrem y 10 - 1).toNatClampNeg = k := by rw [k1, ji_n (by omega)]
        rw [hk]
        obtain ⟨z, a1, m', a2, a3, a4⟩ := ih f (y / 10) m1 (jRr R t k) (by omega) (by omega) hR1 (fun r hr hp => by
          rw [Bool.and_eq_true, decide_eq_true_eq] at hp
          unfold jRr
          by_cases e3 : r = t
          · rw [if_pos e3, e3, hv1, k1]
            exact ⟨rfl, k3⟩
          · rw [if_neg e3, ho1 r e3]
            exact hw r hr (by show ((jDq D).testBit r && decide (t + 1 ≤ r)) = true; rw [hp.1, decide_eq_true (show t + 1 ≤ r by omega)]; rfl))
        exact ⟨z, a1, m', hx1.trans a2, a3, a4⟩
theorem y_find_l117 (hF : 1000 < F) (hDS : jDS D S) {r : Nat} (hr : r < 4) (hin : (jDq D).testBit r = true) {R : Nat → Nat} {y : Int64} : ∀ (t k f : Nat) (m : jMe), k + t = R r → t < f → jYg D S m → jyRw D (fun x => (jDq D).testBit x) R m → ∃ m', c_X10_find_l117 F f m 101 y (Int32.ofNat r) (Int64.ofNat (jsum k (fun k => if jMc D R r k = true then jwth D r k else 0))) (Int32.ofNat k) = some (m', 101, y, Int32.ofNat r, Int64.ofNat (jsum (R r) (fun k => if jMc D R r k = true then jwth D r k else 0))) ∧ jfx jSpp m m' ∧ jYg D S m' := by
  have hD := hDS.1
  have hDr := hD.2.2.1 r hr
  have hz := hDr.2.2.1
  intro t
  induction t with
  | zero =>
    intro k f m h1 h2 hY hw
    obtain ⟨f, rfl⟩ := jsucc h2
    have hL := hY.1.1.1
    obtain ⟨w1, w2⟩ := hw r hr hin
    refine ⟨m, ?_, jfx.rfl, hY⟩
    show c_X10_find_l117_b F _ m _ _ _ _ _ = _
    unfold c_X10_find_l117_b
    rw [jgd_t hL.1, jp_117 hL, jgd_t (jk_117 hL), jz_117 hL, jgd_t (ji_int (by omega) hr), ji_n (by omega), w1, if_pos (ji_lep (by omega) (by omega) (by omega)), show k = R r by omega]
  | succ t ih =>
    intro k f m h1 h2 hY hw
    obtain ⟨f, rfl⟩ := jsucc h2
    have hL := hY.1.1.1
    obtain ⟨w1, w2⟩ := hw r hr hin
    have hwc : jyRw D (jPc D r) R m := fun x hx hp => hw x hx (by
      have hb := jdK_bits (D := D) x hx
      unfold jPc at hp
      rw [Bool.or_eq_true, Bool.and_eq_true] at hp
      rcases hp with hp | hp
      · exact hb.1 hp
      · exact (hb.2.mp hp.1).1)
    obtain ⟨m1, b1, b2, b3⟩ := y_isChecked (F := F) hF hDS hr (show k < jDz D r by omega) hY hwc
    have hL1 := b3.1.1.1
    have hw1 := jSpp_r b2 hw
    obtain ⟨m', a1, a2, a3⟩ := ih (k + 1) f m1 (by omega) (by omega) b3 hw1
    rw [jsum_s] at a1
    refine ⟨m', ?_, b2.trans a2, a3⟩
    show c_X10_find_l117_b F _ m _ _ _ _ _ = _
    unfold c_X10_find_l117_b
    rw [jgd_t hL.1, jp_117 hL, jgd_t (jk_117 hL), jz_117 hL, jgd_t (ji_int (by omega) hr), ji_n (by omega), w1, if_neg (ji_len (by omega) (by omega) (by omega)), b1, jb_some]
    dsimp only
    rw [jgd_t hL1.1, y_worthOf hL1 b3.1.1.2.1 hr hDr (by omega), jb_some, show (0 : Int64) = Int64.ofNat 0 from rfl, jq_add, jq_add, show Int32.ofNat k + 1 = Int32.ofNat (k + 1) from ji_add k 1]
    cases em : jMc D R r k with
    | false =>
      rw [em, if_neg (by decide)] at a1
      rw [if_pos (show jbi false = 0 from rfl)]
      exact a1
    | true =>
      rw [em, if_pos rfl] at a1
      rw [if_neg (show ¬ jbi true = 0 by decide)]
      exact a1
theorem y_find_l96 (hF : 1000 < F) (hDS : jDS D S) {R : Nat → Nat} : ∀ (t r f p : Nat) (m : jMe), r + t = 4 → t < f → jYg D S m → jyRw D (fun x => (jDq D).testBit x) R m → ∃ m', c_X10_find_l96 F f m 101 (Int64.ofNat p) (Int32.ofNat r) = some (m', Int64.ofNat (jlck D R t r p)) ∧ jfx jSpp m m' ∧ jYg D S m' := by
  have hD := hDS.1
  have hq := jDok_q hD
  intro t
  induction t with
  | zero =>
    intro r f p m h1 h2 hY hw
    obtain ⟨f, rfl⟩ := jsucc h2
    refine ⟨m, ?_, jfx.rfl, hY⟩
    show c_X10_find_l96_b F _ m _ _ _ = _
    unfold c_X10_find_l96_b jlck
    rw [if_pos (show (4 : Int32) ≤ Int32.ofNat r from ji_lep (a := 4) (by omega) (by omega) (by omega))]
  | succ t ih =>
    intro r f p m h1 h2 hY hw
    obtain ⟨f, rfl⟩ := jsucc h2
    have hL := hY.1.1.1
    show ∃ m', c_X10_find_l96_b F _ m _ _ _ = _ ∧ _
    unfold c_X10_find_l96_b
    rw [if_neg (show ¬ (4 : Int32) ≤ Int32.ofNat r from ji_len (a := 4) (by omega) (by omega) (by omega)), jgd_t hL.1, y_isCheck hY.1 hq (by omega), jb_some, jlck, show Int32.ofNat r + 1 = Int32.ofNat (r + 1) from ji_add r 1]
    dsimp only
    cases e : (jdC D).testBit r with
    | false =>
      rw [if_pos (show jbi false = 0 from rfl), if_neg (by decide)]
      exact ih (r + 1) f p m (by omega) (by omega) hY hw
    | true =>
      rw [if_neg (show ¬ jbi true = 0 by decide), if_pos rfl]
      have hin := ((jdK_bits (D := D) r (by omega)).2.mp e).1
      have hzz := (hD.2.2.1 r (by omega)).2.2.1
      have hrr := (hw r (by omega) hin).2
      obtain ⟨m1, a1, a2, a3⟩ := y_find_l117 (F := F) hF hDS (r := r) (by omega) hin (R := R) (y := Int64.ofNat p) (R r) 0 F m (by omega) (by omega) hY hw
      have a1 : c_X10_find_l117 F F m 101 (Int64.ofNat p) (Int32.ofNat r) (0 : Int64) (0 : Int32) = _ := a1
      have hL1 := a3.1.1.1
      rw [a1, jb_some]
      dsimp only
      rw [jgd_t hL1.1, jp_116 hL1, jgd_t (jk_116 hL1), jz_116 hL1, jgd_t (ji_int (by omega) (by omega)), ji_n (by omega), a3.2.2.1 r (by omega), if_pos e, jlet_m, jq_mul, jq_add, show Int32.ofNat r + 1 = Int32.ofNat (r + 1) from ji_add r 1]
      obtain ⟨m', b1, b2, b3⟩ := ih (r + 1) f (p * jbd D r + jsum (R r) (fun k => if jMc D R r k = true then jwth D r k else 0)) m1 (by omega) (by omega) a3 (jSpp_r a2 hw)
      exact ⟨m', b1, a2.trans b2, b3⟩
theorem jyQ_fx {Q : Nat → Nat → Prop} {m m' : jMe} (h : jfx Q m m') (hQ : ¬ Q 101 29 ∧ ¬ Q 101 37 ∧ ¬ Q 101 39) (hR : jRf D S m') (k : jyQ D S m) : jyQ D S m' := by
  obtain ⟨k1, ⟨x, k2, k3⟩, k4, k5⟩ := k
  exact ⟨hR, ⟨x, k2, by rw [h.I hQ.1]; exact k3⟩, by rw [h.I hQ.2.1]; exact k4, by rw [h.I hQ.2.2]; exact k5⟩
def jlN (o : Option Nat) : Int64 := match o with
  | none => -4611686018427387904
  | some p => Int64.ofNat p
theorem y_find (hF : 1000 < F) (hDS : jDS D S) {g : Bool} (hg : g = true ↔ jGt D) {m : jMe} (hQ : jyQ D S m) {y : Int32} : ∃ m', c_X10_find F m 101 y = some (if jDq D ≠ 0 ∧ g = false then jlN (jfind D y) else -4611686018427387904, m') ∧ jfx jyO m m' ∧ jyQ D S m' := by
  have hD := hDS.1
  obtain ⟨m1, a1, a2, a3, a4⟩ := y_isTold (F := F) hF hDS hg hQ
  unfold c_X10_find
  rw [jgd_t hQ.1.1.1, a1, jb_some]
  by_cases hq0 : jDq D = 0
  · refine ⟨m1, ?_, a2, a4⟩
    rw [decide_eq_true hq0, if_pos (show jbi (!true && !g) = 0 from rfl), if_neg (fun h => h.1 hq0)]
  by_cases hgg : g = true
  · refine ⟨m1, ?_, a2, a4⟩
    rw [hgg, if_pos (show jbi (!decide (jDq D = 0) && !true) = 0 by rw [show (!true) = false from rfl, Bool.and_false]; rfl), if_neg (fun h => by cases h.2)]
  have hgf : g = false := by cases g with | false => rfl | true => exact absurd rfl hgg
  have hng : ¬ jGt D := fun h => hgg (hg.mpr h)
  have hY := jYg_of a3 hng
  rw [decide_eq_false hq0, hgf, if_neg (show ¬ jbi (!false && !false) = 0 by decide), if_pos ⟨hq0, rfl⟩]
  obtain ⟨z, b1, m2, b2, b3, b4⟩ := y_find_l15 (F := F) hD 4 F y m1 (fun _ => 0) (by omega) (by omega) hY.1.1 (fun r hr hp => by
    rw [Bool.and_eq_true, decide_eq_true_eq] at hp
    omega)
  have b1 : c_X10_find_l15 F F m1 101 y (3 : Int32) = _ := b1
  have hf2 : jfx jyO m m2 := a2.trans (b2.weak (fun a i h => by unfold jyO; omega))
  have hQ2 : jyQ D S m2 := jyQ_fx b2 (by omega) b3 a4
  have hY2 : jYg D S m2 := jYg_fx b2 (fun a i h => by unfold jSyg jSr at h; omega) hY
  rw [b1]
  unfold jfind
  cases hd : jfdg D 4 y (fun _ => 0) with
  | none =>
    rw [hd] at b4
    rw [b4, jb2_l]
    exact ⟨m2, rfl, hf2, hQ2⟩
  | some z2 =>
    obtain ⟨R, y'⟩ := z2
    rw [hd] at b4
    obtain ⟨b4, hw2⟩ := b4
    rw [b4, jb2_r]
    dsimp only
    by_cases hy : y' = 0
    · rw [if_pos hy, jgd_t hY2.1.1.1.1]
      obtain ⟨m3, c1, c2, c3⟩ := y_isAnswer (F := F) hF hDS b3 hw2
      have hf3 : jfx jyO m m3 := hf2.trans (c2.weak (fun a i h => jyO_spp h))
      have hQ3 : jyQ D S m3 := jyQ_fx c2 (by unfold jSpp; omega) c3 hQ2
      have hY3 : jYg D S m3 := jYg_p c2 c3 hY2
      have hw3 := jSpp_r c2 hw2
      rw [c1, jb_some]
      dsimp only
      cases hok : jall4 (jok D R) with
      | false =>
        rw [if_pos (show jbi false = 0 from rfl), if_neg (fun h => by cases h.2)]
        exact ⟨m3, rfl, hf3, hQ3⟩
      | true =>
        rw [if_neg (show ¬ jbi true = 0 by decide), if_pos ⟨hy, rfl⟩, jgd_t hY3.1.1.1.1]
        obtain ⟨root, hT, hrt, hr4, hro⟩ := jtree0 hD
        rw [if_neg hq0] at hrt
        obtain ⟨pre, post, e⟩ := List.append_of_mem (hro hq0)
        have hpar : jpar D root = none := by
          have h3 := hT.2.2 pre root post e
          by_cases hpo : post = []
          · exact (h3.1 hpo).2
          · exfalso
            obtain ⟨l, z, hlz⟩ := jlast hpo
            have h4 := hT.2.2 (pre ++ root :: l) z [] (by rw [e, hlz]; simp)
            have hz := (h4.1 rfl).1
            have hnd := hT.1
            rw [e, hlz, hz] at hnd
            have := (List.nodup_cons.mp (List.nodup_append.mp hnd).2.1).1
            exact this (by simp)
        have hlen := jord_le hT
        have hprel : pre.length ≤ 4 := by
          rw [e] at hlen
          simp only [List.length_append, List.length_cons] at hlen
          omega
        have hok4 : jok4 D R := fun r hr hin => by
          refine ⟨(hw3 r hr hin).2, ?_⟩
          have h5 := jall4_i hok hr
          unfold jok jMq at h5
          rw [hin, Bool.not_true, Bool.false_or, Bool.and_eq_true] at h5
          exact h5.1
        obtain ⟨m4, d1, d2, d3⟩ := y_leastOf (F := F) (by omega) hD hok4 hT 4 pre root post 8 m3 (-1) hprel e (by omega) hY3 hw3 (Or.inl ⟨hpar, rfl⟩)
        have hw4 : jyRw D (fun x => (jDq D).testBit x) R m4 := jyRw_Z (fun x => d2.I (by omega)) hw3
        obtain ⟨m5, e1, e2, e3⟩ := y_find_l96 (F := F) hF hDS 4 0 F (jlst D R 4 root) m4 (by omega) (by omega) d3 hw4
        have e1 : c_X10_find_l96 F F m4 101 (Int64.ofNat (jlst D R 4 root)) (0 : Int32) = _ := e1
        rw [hY3.1.2.1.2.1 root hrt, d1, jb_some]
        dsimp only
        rw [e1, jb_some]
        refine ⟨m5, ?_, (hf3.trans (d2.weak (fun a i h => by unfold jyO; omega))).trans (e2.weak (fun a i h => jyO_spp h)), jyQ_fx e2 (by unfold jSpp; omega) e3.1.1 (jyQ_fx d2 (by omega) d3.1.1 hQ3)⟩
        unfold jplc1
        rw [hrt]
        rfl
    · rw [if_neg hy, if_neg (fun h => hy h.1)]
      exact ⟨m2, rfl, hf2, hQ2⟩
end YFND
