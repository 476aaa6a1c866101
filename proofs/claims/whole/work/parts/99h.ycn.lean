/-! answers counted, as the reference counts them: codes -/
section YCN
variable {F : Nat} {D : jD} {S : jTS}
theorem jall4_e {p : Nat → Bool} : (List.range' 0 4).all p = jall4 p := by
  simp [List.range', jall4]
theorem jall4_i {p : Nat → Bool} (h : jall4 p = true) {r : Nat} (hr : r < 4) : p r = true := by
  unfold jall4 at h
  simp only [Bool.and_eq_true] at h
  rcases (by omega : r = 0 ∨ r = 1 ∨ r = 2 ∨ r = 3) with rfl | rfl | rfl | rfl
  · exact h.1
  · exact h.2.1
  · exact h.2.2.1
  · exact h.2.2.2
def jcf (D : jD) (o1 k1 o2 v2 : Int32) (R : Nat → Nat) : Nat := if (o1 = -1 ∨ Int32.ofNat (R o1.toNatClampNeg) = k1) ∧ (o2 = -1 ∨ jav D R o2.toNatClampNeg = v2) then 1 else 0
theorem y_countNow_l17 (hF : 100 < F) (hD : jDok D) {code : Nat} (hc : code < 4096) {y1 : Int64} : ∀ (t r f : Nat) (m : jMe) (b : Bool), r + t = 4 → t < f → jRf D S m → ∃ m', c_X10_countNow_l17 F f m 101 y1 (Int32.ofNat code) (jbi b) (Int32.ofNat r) = some (m', 101, y1, Int32.ofNat code, jbi (b && (List.range' r t).all (jvd D (jRc code)))) ∧ jfx (fun a _ => a = 117) m m' ∧ jRf D S m' ∧ ∀ x, x < 4 → jI m' 117 x = if r ≤ x then Int32.ofNat (jRc code x) else jI m 117 x := by
  have hq := jDok_q hD
  intro t
  induction t with
  | zero =>
    intro r f m b h1 h2 hR
    obtain ⟨f, rfl⟩ := jsucc h2
    refine ⟨m, ?_, jfx.rfl, hR, fun x hx => by rw [if_neg (by omega)]⟩
    show c_X10_countNow_l17_b F _ m _ _ _ _ _ = _
    unfold c_X10_countNow_l17_b
    rw [if_pos (show (4 : Int32) ≤ Int32.ofNat r from ji_lep (a := 4) (by omega) (by omega) (by omega))]
    show _ = some (m, 101, y1, Int32.ofNat code, jbi (b && true))
    rw [Bool.and_true]
  | succ t ih =>
    intro r f m b h1 h2 hR
    obtain ⟨f, rfl⟩ := jsucc h2
    have hL := hR.1
    have hDr := hD.2.2.1 r (by omega)
    show ∃ m', c_X10_countNow_l17_b F _ m _ _ _ _ _ = _ ∧ _
    unfold c_X10_countNow_l17_b
    rw [if_neg (show ¬ (4 : Int32) ≤ Int32.ofNat r from ji_len (a := 4) (by omega) (by omega) (by omega)), jgd_t hL.1, jp_117 hL, jgd_t (jk_117 hL), jz_117 hL, jgd_t (ji_int (by omega) (by omega)), ji_n (by omega), jsh7 hc (by omega), show Int32.ofNat r + 1 = Int32.ofNat (r + 1) from ji_add r 1]
    have hx1 : jfx (fun a _ => a = 117) m (jsI m 117 r (Int32.ofNat (jRc code r))) := jfx_I rfl
    have hv1 : jI (jsI m 117 r (Int32.ofNat (jRc code r))) 117 r = Int32.ofNat (jRc code r) := jsI_y
    have ho1 : ∀ x, x ≠ r → jI (jsI m 117 r (Int32.ofNat (jRc code r))) 117 x = jI m 117 x := fun x hx => jsI_no (by omega)
    generalize jsI m 117 r (Int32.ofNat (jRc code r)) = m1 at hx1 hv1 ho1 ⊢
    have hR1 : jRf D S m1 := jRf_fx hx1 (fun a i q => by unfold jSr at q; omega) hR
    have hL1 := hR1.1
    have go : ∀ b' : Bool, (b && jvd D (jRc code) r) = b' → ∃ m', c_X10_countNow_l17 F f m1 101 y1 (Int32.ofNat code) (jbi b') (Int32.ofNat (r + 1)) = some (m', 101, y1, Int32.ofNat code, jbi (b && (List.range' r (t + 1)).all (jvd D (jRc code)))) ∧ jfx (fun a _ => a = 117) m m' ∧ jRf D S m' ∧ ∀ x, x < 4 → jI m' 117 x = if r ≤ x then Int32.ofNat (jRc code x) else jI m 117 x := by
      intro b' hb'
      obtain ⟨m', a1, a2, a3, a4⟩ := ih (r + 1) f m1 b' (by omega) (by omega) hR1
      refine ⟨m', ?_, hx1.trans a2, a3, fun x hx => ?_⟩
      · rw [a1, jall_s, ← hb', Bool.and_assoc]
      · rw [a4 x hx]
        by_cases e : r = x
        · rw [if_neg (by omega), if_pos (by omega), ← e, hv1]
        · by_cases e2 : r ≤ x
          · rw [if_pos (by omega), if_pos e2]
          · rw [if_neg (by omega), if_neg e2, ho1 x (by omega)]
    have hlt := jRc_lt code r
    cases b with
    | false =>
      rw [if_pos (show jbi false = 0 from rfl)]
      exact go false rfl
    | true =>
      rw [if_neg (show ¬ jbi true = 0 by decide), y_isIn hL1 hR1.2.1 hq (by omega), jb_some, jp_117 hL1, jgd_t (jk_117 hL), jz_117 hL, jgd_t (ji_int (by omega) (by omega)), hv1]
      by_cases e : (jDq D).testBit r = true
      · rw [e, if_neg (show ¬ jbi true = 0 by decide), jp_107 hL1, jgd_t (jk_117 hL), jgd_t (ji_int (by omega) (by omega)), jgd_t (jk_107 hL), jz_107 hL, jgd_t (ji_int (by omega) (by omega)), (hR1.2.1.2.2.2 r (by omega)).2.2.1]
        have hz := hDr.2.2.1
        by_cases e2 : jDz D r ≤ jRc code r
        · rw [if_pos (ji_lep (by omega) (by omega) e2)]
          exact go false (by unfold jvd; rw [if_pos e, decide_eq_false (by omega)]; rfl)
        · rw [if_neg (ji_len (by omega) (by omega) e2)]
          exact go true (by unfold jvd; rw [if_pos e, decide_eq_true (by omega)]; rfl)
      · have e' : (jDq D).testBit r = false := by cases z : (jDq D).testBit r with | false => rfl | true => exact absurd z e
        rw [e', if_pos (show jbi false = 0 from rfl)]
        by_cases e2 : jRc code r = 0
        · rw [if_pos (by rw [e2]; rfl)]
          exact go true (by unfold jvd; rw [if_neg e, decide_eq_true e2]; rfl)
        · rw [if_neg (show ¬ Int32.ofNat (jRc code r) = 0 from ji_eqn (b := 0) (by omega) (by omega) e2)]
          exact go false (by unfold jvd; rw [if_neg e, decide_eq_false e2]; rfl)
theorem y_count_b (hF : 1000 < F) (hDS : jDS D S) {code : Nat} (hc : code < 4096) {o1 k1 o2 v2 : Int32} (ho1 : o1 = -1 ∨ ∃ r, r < 4 ∧ o1 = Int32.ofNat r) (ho2 : o2 = -1 ∨ ∃ a, a < 6 ∧ o2 = Int32.ofNat a) {s : Nat} {m : jMe} (hR : jRf D S m) (g1 : jI m 101 37 = o1) (g2 : jI m 101 38 = k1) (g3 : jI m 101 39 = o2) (g4 : jI m 101 40 = v2) : ∃ m', (∀ B : jMe → Nat → Int64 → Int32 → Option (jMe × Int64), c_X10_countNow_l4_b F B m 101 (Int64.ofNat s) (Int32.ofNat code) = B m' 101 (Int64.ofNat (s + jcd D (jcf D o1 k1 o2 v2) (jRc code))) (Int32.ofNat (code + 1))) ∧ jfx jyFc m m' ∧ jRf D S m' := by
  have hD := hDS.1
  obtain ⟨m1, a1, a2, a3, a4⟩ := y_countNow_l17 (F := F) (by omega) hD hc (y1 := Int64.ofNat s) 4 0 F m true (by omega) (by omega) hR
  have a1 : c_X10_countNow_l17 F F m 101 (Int64.ofNat s) (Int32.ofNat code) (1 : Int32) (0 : Int32) = _ := a1
  have hL1 := a3.1
  have a2' : jfx jyFc m m1 := a2.weak (fun a i q => Or.inr q)
  have w37 : jI m1 101 37 = o1 := by rw [a2.I (by decide)]; exact g1
  have w38 : jI m1 101 38 = k1 := by rw [a2.I (by decide)]; exact g2
  have w39 : jI m1 101 39 = o2 := by rw [a2.I (by decide)]; exact g3
  have w40 : jI m1 101 40 = v2 := by rw [a2.I (by decide)]; exact g4
  rw [Bool.true_and, jall4_e] at a1
  rw [jcd_e]
  unfold c_X10_countNow_l4_b
  simp only [if_neg (show ¬ (4096 : Int32) ≤ Int32.ofNat code from ji_len (a := 4096) (by omega) (by omega) (by omega)), a1, jb_some, show Int32.ofNat code + 1 = Int32.ofNat (code + 1) from ji_add code 1]
  cases hv : jall4 (jvd D (jRc code)) with
  | false =>
    refine ⟨m1, fun B => ?_, a2', a3⟩
    rw [if_pos (show jbi false = 0 from rfl), Bool.false_and, if_neg (by decide)]
    rfl
  | true =>
    have hw : jyRw D (fun x => (jDq D).testBit x) (jRc code) m1 := fun r hr hin => by
      refine ⟨by rw [a4 r hr, if_pos (by omega)], ?_⟩
      have := jall4_i hv hr
      unfold jvd at this
      rw [if_pos hin] at this
      exact of_decide_eq_true this
    obtain ⟨m2, b1, b2, b3⟩ := y_isAnswer (F := F) hF hDS a3 hw
    have b2' : jfx jyFc m m2 := a2'.trans (b2.weak (fun a i q => Or.inl q))
    have hL2 := b3.1
    have hw2 := jSpp_r b2 hw
    have x39 : jI m2 101 39 = o2 := by rw [b2.I (by unfold jSpp; omega)]; exact w39
    have x40 : jI m2 101 40 = v2 := by rw [b2.I (by unfold jSpp; omega)]; exact w40
    have hprod : jwq D (jRc code) 0 * (jwq D (jRc code) 1 * (jwq D (jRc code) 2 * (jwq D (jRc code) 3 * 1))) = jprw D (jRc code) 4 0 := rfl
    have hzero : jwq D (jRc code) 0 * (jwq D (jRc code) 1 * (jwq D (jRc code) 2 * (jwq D (jRc code) 3 * 0))) = 0 := by simp only [Nat.mul_zero]
    -- after the row's own check
    have next : (o1 = -1 ∨ Int32.ofNat (jRc code o1.toNatClampNeg) = k1) → ∃ m', (∀ B : jMe → Nat → Int64 → Int32 → Option (jMe × Int64), c_X10_countNow_j125_l4 F B m1 101 (Int64.ofNat s) (Int32.ofNat code) = B m' 101 (Int64.ofNat (s + if (true && jall4 (jok D (jRc code))) = true then jwq D (jRc code) 0 * (jwq D (jRc code) 1 * (jwq D (jRc code) 2 * (jwq D (jRc code) 3 * jcf D o1 k1 o2 v2 (jRc code)))) else 0)) (Int32.ofNat (code + 1))) ∧ jfx jyFc m m' ∧ jRf D S m' := by
      intro hrow
      refine ⟨m2, fun B => ?_, b2', b3⟩
      unfold c_X10_countNow_j125_l4 c_X10_countNow_j156_l4
      rw [jgd_t hL1.1, b1, jb_some, Bool.true_and]
      dsimp only
      rw [show Int32.ofNat code + 1 = Int32.ofNat (code + 1) from ji_add code 1, jgd_t hL2.1, jgd_t hL2.1, x39, x40, y_timesNow (by omega) b3 hD hw2, jb_some, show (0 : Int64) = Int64.ofNat 0 from rfl, jq_add, jq_add]
      cases hok : jall4 (jok D (jRc code)) with
      | false => rw [if_pos (show jbi false = 0 from rfl), if_neg (by decide)]; rfl
      | true =>
        rw [if_neg (show ¬ jbi true = 0 by decide), if_pos rfl]
        unfold jcf
        rcases ho2 with e2 | ⟨a, ha, e2⟩
        · rw [if_pos e2, if_pos ⟨hrow, Or.inl e2⟩, hprod]
        · have ne : ¬ o2 = -1 := by
            intro h
            rw [h] at e2
            have : ∀ a : Fin 6, ¬ (-1 : Int32) = Int32.ofNat a.1 := by decide
            exact this ⟨a, ha⟩ e2
          have ea : o2.toNatClampNeg = a := by rw [e2, ji_n (by omega)]
          rw [if_neg ne, ea, e2, y_valueNow (by omega) b3 hD hw2 ha, jb_some]
          by_cases e3 : jav D (jRc code) a = v2
          · rw [if_pos e3, if_pos ⟨hrow, Or.inr e3⟩, hprod]
          · rw [if_neg e3, if_neg (fun h => by
              rcases h.2 with h | h
              · exact ne (by rw [e2]; exact h)
              · exact e3 h), hzero]
    simp only [if_neg (show ¬ jbi true = 0 by decide), jgd_t hL1.1, w37, w38, jp_117 hL1, jgd_t (jk_117 hL1), jz_117 hL1]
    rcases ho1 with e1 | ⟨r, hr, e1⟩
    · simp only [if_pos e1]
      exact next (Or.inl e1)
    · have ne : ¬ o1 = -1 := by
        intro h
        rw [h] at e1
        have : ∀ a : Fin 4, ¬ (-1 : Int32) = Int32.ofNat a.1 := by decide
        exact this ⟨r, hr⟩ e1
      have ea : o1.toNatClampNeg = r := by rw [e1, ji_n (by omega)]
      simp only [if_neg ne, jgd_t (show jin o1 4 = true by rw [e1]; exact ji_int (by omega) hr), ea, a4 r hr, if_pos (Nat.zero_le r)]
      by_cases e3 : Int32.ofNat (jRc code r) = k1
      · simp only [if_pos e3]
        exact next (Or.inr (by rw [ea]; exact e3))
      · simp only [if_neg e3]
        refine ⟨m1, fun B => ?_, a2', a3⟩
        have hz : jcf D o1 k1 o2 v2 (jRc code) = 0 := by
          unfold jcf
          rw [if_neg (fun h => by
            rcases h.1 with h | h
            · exact ne h
            · rw [ea] at h; exact e3 h)]
        rw [hz, hzero, ite_self]
        rfl
theorem jyFc_R {D : jD} {S : jTS} {m m' : jMe} (h : jfx jyFc m m') : jI m' 101 37 = jI m 101 37 ∧ jI m' 101 38 = jI m 101 38 ∧ jI m' 101 39 = jI m 101 39 ∧ jI m' 101 40 = jI m 101 40 :=
  ⟨h.I (by unfold jyFc jSpp; omega), h.I (by unfold jyFc jSpp; omega), h.I (by unfold jyFc jSpp; omega), h.I (by unfold jyFc jSpp; omega)⟩
theorem y_countNow_l4 (hF : 1000 < F) (hDS : jDS D S) {o1 k1 o2 v2 : Int32} (ho1 : o1 = -1 ∨ ∃ r, r < 4 ∧ o1 = Int32.ofNat r) (ho2 : o2 = -1 ∨ ∃ a, a < 6 ∧ o2 = Int32.ofNat a) : ∀ (t c f : Nat) (m : jMe), c + t = 4096 → t < f → jRf D S m → jI m 101 37 = o1 → jI m 101 38 = k1 → jI m 101 39 = o2 → jI m 101 40 = v2 → ∃ m', c_X10_countNow_l4 F f m 101 (Int64.ofNat (jsum c (fun c => jcd D (jcf D o1 k1 o2 v2) (jRc c)))) (Int32.ofNat c) = some (m', Int64.ofNat (jsum 4096 (fun c => jcd D (jcf D o1 k1 o2 v2) (jRc c)))) ∧ jfx jyFc m m' ∧ jRf D S m' := by
  intro t
  induction t with
  | zero =>
    intro c f m h1 h2 hR g1 g2 g3 g4
    obtain ⟨f, rfl⟩ := jsucc h2
    refine ⟨m, ?_, jfx.rfl, hR⟩
    show c_X10_countNow_l4_b F _ m _ _ _ = _
    unfold c_X10_countNow_l4_b
    rw [if_pos (show (4096 : Int32) ≤ Int32.ofNat c from ji_lep (a := 4096) (by omega) (by omega) (by omega)), show c = 4096 by omega]
  | succ t ih =>
    intro c f m h1 h2 hR g1 g2 g3 g4
    obtain ⟨f, rfl⟩ := jsucc h2
    obtain ⟨m1, a1, a2, a3⟩ := y_count_b (F := F) hF hDS (code := c) (by omega) ho1 ho2 (s := jsum c (fun c => jcd D (jcf D o1 k1 o2 v2) (jRc c))) hR g1 g2 g3 g4
    show ∃ m', c_X10_countNow_l4_b F _ m _ _ _ = _ ∧ _
    rw [a1]
    obtain ⟨e1, e2, e3, e4⟩ := jyFc_R (D := D) (S := S) a2
    obtain ⟨m', b1, b2, b3⟩ := ih (c + 1) f m1 (by omega) (by omega) a3 (by rw [e1]; exact g1) (by rw [e2]; exact g2) (by rw [e3]; exact g3) (by rw [e4]; exact g4)
    rw [jsum_s] at b1
    exact ⟨m', b1, a2.trans b2, b3⟩
theorem y_countNow (hF : 5000 < F) (hDS : jDS D S) (hq0 : jDq D ≠ 0) {o1 k1 o2 v2 : Int32} (ho1 : o1 = -1 ∨ ∃ r, r < 4 ∧ o1 = Int32.ofNat r) (ho2 : o2 = -1 ∨ ∃ a, a < 6 ∧ o2 = Int32.ofNat a) {m : jMe} (hR : jRf D S m) (g1 : jI m 101 37 = o1) (g2 : jI m 101 38 = k1) (g3 : jI m 101 39 = o2) (g4 : jI m 101 40 = v2) : ∃ m', c_X10_countNow F m 101 = some (Int64.ofNat (jct D (jcf D o1 k1 o2 v2)), m') ∧ jfx jyFc m m' ∧ jRf D S m' := by
  obtain ⟨m', a1, a2, a3⟩ := y_countNow_l4 (F := F) (by omega) hDS ho1 ho2 4096 0 F m (by omega) (by omega) hR g1 g2 g3 g4
  have a1 : c_X10_countNow_l4 F F m 101 (0 : Int64) (0 : Int32) = _ := a1
  refine ⟨m', ?_, a2, a3⟩
  unfold c_X10_countNow
  rw [a1, jb_some, jct_codes (fun r hr => (hDS.1.2.2.1 r hr).2.2.1) hq0]
end YCN
