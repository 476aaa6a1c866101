/-! about, as the reference tells it -/
section YAB2
variable {F : Nat} {D : jD} {S : jTS}
theorem y_liveOf_l4 {m : jMe} (hR : jRf D S m) (hD : jDok D) {r : Nat} (hr : r < 4) : ∀ (t k f : Nat), k + t = jDz D r → t < f → c_X10_liveOf_l4 F m f 101 (Int32.ofNat r) (Int32.ofNat (jbw k (fun k => (jDl D r).testBit k))) (Int32.ofNat k) = some (Int32.ofNat (jbw (jDz D r) (fun k => (jDl D r).testBit k))) := by
  have hL := hR.1
  have hz := (hD.2.2.1 r hr).2.2.1
  obtain ⟨c1, c2, c3, c4⟩ := hR.2.1.2.2.2 r hr
  intro t
  induction t with
  | zero =>
    intro k f h1 h2
    obtain ⟨f, rfl⟩ := jsucc h2
    show c_X10_liveOf_l4_b F _ m _ _ _ _ = _
    unfold c_X10_liveOf_l4_b
    rw [jgd_t hL.1, jp_107 hL, jgd_t (jk_107 hL), jz_107 hL, jgd_t (ji_int (by omega) hr), ji_n (by omega), c3, if_pos (ji_lep (by omega) (by omega) (by omega)), show k = jDz D r by omega]
  | succ t ih =>
    intro k f h1 h2
    obtain ⟨f, rfl⟩ := jsucc h2
    have ih := ih (k + 1) f (by omega) (by omega)
    have hlt := jbw_lt (p := fun k => (jDl D r).testBit k) (n := k)
    have hp8 : 2 ^ k ≤ 2 ^ 7 := Nat.pow_le_pow_right (by omega) (by omega)
    have hst := jbw_st (p := fun k => (jDl D r).testBit k) (n := k)
    show c_X10_liveOf_l4_b F _ m _ _ _ _ = _
    unfold c_X10_liveOf_l4_b
    rw [jgd_t hL.1, jp_107 hL, jgd_t (jk_107 hL), jz_107 hL, jgd_t (ji_int (by omega) hr), ji_n (by omega), c3, if_neg (ji_len (by omega) (by omega) (by omega)), jp_110 hL, jgd_t (jk_110 hL), jz_110 hL, show (8 : Int32) = Int32.ofNat 8 from rfl, ji_mul, ji_add, jgd_t (ji_int (by omega) (by omega)), ji_n (by omega), (c4 k (by omega)).2.2, y_or0 (by omega) (by omega), jset_or (by omega) (by omega), show Int32.ofNat k + 1 = Int32.ofNat (k + 1) from ji_add k 1]
    cases e : (jDl D r).testBit k with
    | false =>
      rw [e, if_neg (by decide)] at hst
      rw [hst] at ih
      rw [if_pos (show jbi false = 0 from rfl)]
      exact ih
    | true =>
      rw [e, if_pos rfl] at hst
      rw [hst] at ih
      rw [if_neg (show ¬ jbi true = 0 by decide)]
      exact ih
theorem jbw_self {n z : Nat} (h : n < 2 ^ z) : jbw z (fun k => n.testBit k) = n := by
  refine Nat.eq_of_testBit_eq (fun i => ?_)
  rw [jbw_bit]
  by_cases e : i < z
  · rw [decide_eq_true e, Bool.true_and]
  · have : 2 ^ z ≤ 2 ^ i := Nat.pow_le_pow_right (by omega) (by omega)
    rw [decide_eq_false e, Bool.false_and, Nat.testBit_lt_two_pow (by omega)]
theorem y_liveOf (hF : 100 < F) {m : jMe} (hR : jRf D S m) (hD : jDok D) {r : Nat} (hr : r < 4) : c_X10_liveOf F m 101 (Int32.ofNat r) = some (Int32.ofNat (jDl D r)) := by
  have hz := (hD.2.2.1 r hr).2.2.1
  unfold c_X10_liveOf
  have h := y_liveOf_l4 (F := F) hR hD hr (jDz D r) 0 F (by omega) (by omega)
  have h : c_X10_liveOf_l4 F m F 101 (Int32.ofNat r) (0 : Int32) (0 : Int32) = _ := h
  rw [h, jb_some, jbw_self (hD.2.2.1 r hr).2.2.2.1]
theorem y_about_l86 (hF : 1000 < F) (hDS : jDS D S) {r : Nat} (hr : r < 4) : ∀ (t k f : Nat) (m : jMe), k + t = jDz D r → t < f → jyQ D S m → ∃ m', c_X10_about_l86 F f m 101 (Int32.ofNat r) (Int32.ofNat (jbw k (jpb D r))) (Int32.ofNat k) = some (m', Int32.ofNat (jbw (jDz D r) (jpb D r))) ∧ jfx jyO m m' ∧ jyQ D S m' := by
  have hD := hDS.1
  have hz := (hD.2.2.1 r hr).2.2.1
  intro t
  induction t with
  | zero =>
    intro k f m h1 h2 hQ
    obtain ⟨f, rfl⟩ := jsucc h2
    have hL := hQ.1.1
    refine ⟨m, ?_, jfx.rfl, hQ⟩
    show c_X10_about_l86_b F _ m _ _ _ _ = _
    unfold c_X10_about_l86_b
    rw [jgd_t hL.1, jp_107 hL, jgd_t (jk_107 hL), jz_107 hL, jgd_t (ji_int (by omega) hr), ji_n (by omega), (hQ.1.2.1.2.2.2 r hr).2.2.1, if_pos (ji_lep (by omega) (by omega) (by omega)), show k = jDz D r by omega]
  | succ t ih =>
    intro k f m h1 h2 hQ
    obtain ⟨f, rfl⟩ := jsucc h2
    have hL := hQ.1.1
    have hlt := jbw_lt (p := jpb D r) (n := k)
    have hp8 : 2 ^ k ≤ 2 ^ 7 := Nat.pow_le_pow_right (by omega) (by omega)
    have hst := jbw_st (p := jpb D r) (n := k)
    obtain ⟨m1, a1, a2, a3⟩ := y_isPassing (F := F) (by omega) hDS hr (show k < jDz D r by omega) hQ.1
    have hQ1 : jyQ D S m1 := jyQ_fx a2 (by unfold jSpp; omega) a3 hQ
    have f1 : jfx jyO m m1 := a2.weak (fun a i h => jyO_spp h)
    obtain ⟨m', b1, b2, b3⟩ := ih (k + 1) f m1 (by omega) (by omega) hQ1
    refine ⟨m', ?_, f1.trans b2, b3⟩
    show c_X10_about_l86_b F _ m _ _ _ _ = _
    unfold c_X10_about_l86_b
    rw [jgd_t hL.1, jp_107 hL, jgd_t (jk_107 hL), jz_107 hL, jgd_t (ji_int (by omega) hr), ji_n (by omega), (hQ.1.2.1.2.2.2 r hr).2.2.1, if_neg (ji_len (by omega) (by omega) (by omega)), a1, jb_some]
    dsimp only
    rw [y_or0 (by omega) (by omega), jset_or (by omega) (by omega), show Int32.ofNat k + 1 = Int32.ofNat (k + 1) from ji_add k 1]
    cases ep : jpb D r k with
    | false =>
      rw [ep, if_neg (by decide)] at hst
      rw [hst] at b1
      rw [if_pos (show jbi false = 0 from rfl)]
      exact b1
    | true =>
      rw [ep, if_pos rfl] at hst
      rw [hst] at b1
      rw [if_neg (show ¬ jbi true = 0 by decide)]
      exact b1
def jabt (D : jD) (r k : Nat) : Int32 := if k = 0 then Int32.ofNat (jDk D r) else if k = 1 then Int32.ofNat (jDa D r) else if k = 2 then Int32.ofNat (jDz D r) else if k = 3 then Int32.ofNat (jDl D r) else if k = 4 then (if (jDq D).testBit r = true then (if (jdK D).testBit r = true then jo1 (jpar D r) else -6) else -7) else if k = 5 then (if (jdK D).testBit r = true then Int32.ofNat (jbw 4 (fun c => jkid D c r)) else 0) else Int32.ofNat (jbw (jDz D r) (jpb D r))
theorem y_about (hF : 1000 < F) (hDS : jDS D S) {g : Bool} (hg : g = true ↔ jGt D) {m : jMe} (hQ : jyQ D S m) {x1 x2 : Int32} : ∃ m', c_X10_about F m 101 x1 x2 = some (if (jin x1 (jDn D) && jbt2 x2 0 6) = true then jabt D x1.toNatClampNeg x2.toNatClampNeg else -2, m') ∧ jfx jyO m m' ∧ jyQ D S m' := by
  have hD := hDS.1
  have hL := hQ.1.1
  have hn := hD.1
  have hq16 := jDok_q hD
  have hK := jdK_lt hq16
  unfold c_X10_about
  rw [jgd_t hL.1, y_isRelation hL hQ.1.2.1 hD, jb_some]
  cases e1 : jin x1 (jDn D) with
  | false => exact ⟨m, rfl, jfx.rfl, hQ⟩
  | true =>
    obtain ⟨r, rfl, hr1, hr2⟩ := jin_nat e1
    have hr4 : r < 4 := by omega
    have hz := (hD.2.2.1 r hr4).2.2.1
    rw [if_neg (show ¬ jbi true = 0 by decide), show c_X10_in F m (Int32.toInt64 x2) (0 : Int64) (6 : Int64) = some (jbi (jbt2 x2 0 6)) from q_in_int (lo := 0) (hi := 6) (by omega) (by omega), jb_some, ji_n hr1, Bool.true_and]
    cases e2 : jbt2 x2 0 6 with
    | false => exact ⟨m, rfl, jfx.rfl, hQ⟩
    | true =>
      obtain ⟨k, rfl, hk, _, hk6⟩ := jbt2_nat e2
      obtain ⟨c1, c2, c3, c4⟩ := hQ.1.2.1.2.2.2 r hr4
      rw [if_neg (show ¬ jbi true = 0 by decide), if_pos rfl, ji_n hk, jp_105 hL, jgd_t (jk_105 hL), jz_105 hL, jp_106 hL, jgd_t (jk_106 hL), jz_106 hL, jp_107 hL, jgd_t (jk_107 hL), jz_107 hL, jgd_t (ji_int (by omega) hr4), jgd_t (ji_int (by omega) hr4), jgd_t (ji_int (by omega) hr4), c1, c2, c3, y_liveOf (by omega) hQ.1 hD hr4, jb_some]
      unfold jabt
      by_cases h4 : 4 ≤ k
      · rw [if_pos (show (4 : Int32) ≤ Int32.ofNat k from ji_lep (a := 4) (by omega) (by omega) h4), if_neg (show ¬ k = 0 by omega), if_neg (show ¬ k = 1 by omega), if_neg (show ¬ k = 2 by omega), if_neg (show ¬ k = 3 by omega)]
        by_cases h6 : k = 6
        · obtain ⟨m1, a1, a2, a3⟩ := y_about_l86 (F := F) hF hDS hr4 (jDz D r) 0 F m (by omega) (by omega) hQ
          have a1 : c_X10_about_l86 F F m 101 (Int32.ofNat r) (0 : Int32) (0 : Int32) = _ := a1
          rw [if_pos (show Int32.ofNat k = 6 by rw [h6]; rfl), if_neg (show ¬ k = 4 by omega), if_neg (show ¬ k = 5 by omega), a1, jb_some]
          exact ⟨m1, rfl, a2, a3⟩
        · obtain ⟨m1, a1, a2, a3, a4, a5⟩ := y_reck (F := F) hF hDS hg hQ
          have hL1 := a4.1.1
          have hch := y_childrenOf (F := F) (by omega) hL1 a3.1.2.1 a3.1.2.2 hq16 hr4
          rw [if_neg (show ¬ Int32.ofNat k = 6 from ji_eqn (b := 6) (by omega) (by omega) h6), a1, jb_some, jgd_t hL1.1, a3.1.2.2, jshr_1 (by omega) (by omega)]
          unfold c_X10_about_j147
          simp only [jgd_t hL1.1, y_isIn hL1 a4.1.2.1 hq16 (show r < 8 by omega), jb_some, jp_113 hL1, jgd_t (jk_113 hL1), jz_113 hL1, jgd_t (show jin (Int32.ofNat r) 4 = true from ji_int (by omega) hr4), ji_n hr1, hch]
          refine ⟨m1, ?_, a2, a4⟩
          by_cases h5 : k = 5
          · rw [if_pos (show Int32.ofNat k = 5 by rw [h5]; rfl), if_pos (show Int32.ofNat k = 5 by rw [h5]; rfl), if_neg (show ¬ k = 4 by omega), if_pos h5]
            cases (jdK D).testBit r <;> rfl
          · have h4' : k = 4 := by omega
            rw [if_neg (show ¬ Int32.ofNat k = 5 from ji_eqn (b := 5) (by omega) (by omega) h5), if_neg (show ¬ Int32.ofNat k = 5 from ji_eqn (b := 5) (by omega) (by omega) h5), if_pos h4']
            cases e5 : (jdK D).testBit r with
            | false => cases (jDq D).testBit r <;> rfl
            | true =>
              rw [(jdK_bits (D := D) r hr4).1 e5, a3.1.2.1.1 r hr4 e5]
              rfl
      · refine ⟨m, ?_, jfx.rfl, hQ⟩
        rw [if_neg (show ¬ (4 : Int32) ≤ Int32.ofNat k from ji_len (a := 4) (by omega) (by omega) h4)]
        rcases (by omega : k = 0 ∨ k = 1 ∨ k = 2 ∨ k = 3) with rfl | rfl | rfl | rfl <;> rfl
end YAB2
