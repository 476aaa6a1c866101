/-! what was told, as the class tells it -/
section XTELLS
variable {F w : Nat} {D : jD} {m : jMe} {S : jTS}
/-- cells that a join in thought may change -/
def xqH (a _i : Nat) : Prop := (63 ≤ a ∧ a ≤ 76) ∨ a = 99 ∨ (129 ≤ a ∧ a % 3 = 1)
theorem xqH_V {a i : Nat} (h : xqH a i) : xqV a i := by unfold xqH at h; unfold xqV; omega
theorem xqH_O {a i : Nat} (h : xqH a i) : xqO a i := by unfold xqH at h; unfold xqO; omega
theorem xq_tellers_l32 (hF : 2000 < F) (hDS : jDS D S) (hq0 : jDq D ≠ 0) (hw : w = S.1) {bt : Bool} {s n : Nat} (hs : s < 4) (hn : n ≤ 40) {V : Nat → Int64} : ∀ (t v f : Nat) (m : jMe), v + t = jend D S bt → (bt = false → 1 ≤ v) → t < f → xqC D w m → jI m (89 + 2 * s) 2 = Int32.ofNat n → (∀ i, jL m (90 + 2 * s) i = V i) → ∃ m', c_X9_tellers_l32 F f m 32 (89 + 2 * s) (jbi bt) (Int32.ofNat (jend D S bt)) (Int32.ofNat (jbw v (jtlb D V n bt))) (Int32.ofNat v) = some (m', Int32.ofNat (jbw (jend D S bt) (jtlb D V n bt))) ∧ xqF xqH m m' ∧ xqC D w m' := by
  have he := jend_le (D := D) (S := S) hDS (bt := bt)
  intro t
  induction t with
  | zero =>
    intro v f m h1 h1v h2 hC h2s hV
    obtain ⟨f, rfl⟩ := jsucc h2
    refine ⟨m, ?_, xqF.rfl, hC⟩
    show c_X9_tellers_l32_b F _ m _ _ _ _ _ _ = _
    unfold c_X9_tellers_l32_b
    rw [if_pos (ji_lep (by omega) (by omega) (by omega)), show v = jend D S bt by omega]
  | succ t ih =>
    intro v f m h1 h1v h2 hC h2s hV
    obtain ⟨f, rfl⟩ := jsucc h2
    have hB := hC.1
    have hL := hB.2.1.1
    have hw6 := hB.2.2.2.2.2.1
    have hT2 := hB.2.1.2.2.1
    have hv := jend_v (D := D) (S := S) (bt := bt) (v := v) (by omega)
    have hDSv := jEv_DS hDS hv
    have hL9 : jLJ m 63 := hB.2.1.2.1.2.2
    have hq0v : jDq (jEv D bt v) ≠ 0 := by
      cases bt with
      | true => exact hq0
      | false => show v ≠ 0; have := h1v rfl; omega
    -- which text tells
    have htx : ∃ tx, tx < w ∧ jDt (jEv D bt v) (jDr (jEv D bt v)) = jDt D tx ∧ ∀ B z, c_X9_tellers_j77_l32 F B m 32 (89 + 2 * s) (jbi bt) (Int32.ofNat (jend D S bt)) (Int32.ofNat (jbw v (jtlb D V n bt))) (Int32.ofNat v) (Int32.ofNat (jDq (jEv D bt v))) (xtb tx) 33 63 = z → c_X9_tellers_l32_b F B m 32 (89 + 2 * s) (jbi bt) (Int32.ofNat (jend D S bt)) (Int32.ofNat (jbw v (jtlb D V n bt))) (Int32.ofNat v) = z := by
      cases bt with
      | true =>
        rw [if_pos rfl] at hv
        refine ⟨v, by omega, rfl, fun B z h => ?_⟩
        rw [← h]
        unfold c_X9_tellers_l32_b c_X9_tellers_j63_l32
        rw [if_neg (ji_len (by omega) (by omega) (by omega)), jgd_t hL.1, if_neg (show ¬ jbi true = 0 by decide), hL.2.2.1, hL.2.1, hL.2.2.2.2.2.2.2.2.2.2, jgd_t hT2.1, hT2.2.1, jgd_t (ji_int (by omega) (by omega)), if_neg (show ¬ jbi true = 0 by decide), jgd_t hL.1, ji_n (by omega), xq_text hB (by omega), hB.2.2.2.2.1.2.2.2]
        rfl
      | false =>
        refine ⟨jDr D, hw6.2.2, rfl, fun B z h => ?_⟩
        rw [← h]
        unfold c_X9_tellers_l32_b c_X9_tellers_j63_l32
        rw [if_neg (ji_len (by omega) (by omega) (by omega)), jgd_t hL.1, if_pos (show jbi false = 0 from rfl), hL.2.2.1, hL.2.1, hL.2.2.2.2.2.2.2.2.2.2, hB.2.2.2.2.1.2.2.1, jgd_t hT2.1, hT2.2.1, jgd_t (ji_int (by omega) (by omega)), if_pos (show jbi false = 0 from rfl), ji_n (by omega), xq_text hB hw6.2.2]
        rfl
    obtain ⟨tx, htx1, htx2, hst⟩ := htx
    have hCr : ∀ r, r < 4 → jCr (jEv D bt v) m r := by
      cases bt with
      | true => exact hB.2.2.2.1
      | false => exact hB.2.2.2.1
    obtain ⟨m1, a1, a2, a3, a4⟩ := xq_tell (F := F) hF (b := 63) (Or.inr rfl) hB htx1 hDSv.1 hCr htx2
    have hc := xtb_c tx
    have hx1 : xqF xqH m m1 := a2.weak (fun a i q => by unfold xqH; omega)
    have hC1 : xqC D w m1 := xqC_fx hx1 (fun a i q => xqH_V q) hC
    have hL1 := hC1.1.2.1.1
    obtain ⟨g, g1, g2, -⟩ := a3.2.2.2.2.2
    have hg : g = jgB (jEv D bt v) := Bool.eq_iff_iff.mpr (g2.trans jgB_iff.symm)
    have h2s1 : jI m1 (89 + 2 * s) 2 = Int32.ofNat n := by rw [hx1.I (by unfold xqH; omega)]; exact h2s
    have hV1 : ∀ i, jL m1 (90 + 2 * s) i = V i := fun i => by rw [hx1.L (by unfold xqH; omega)]; exact hV i
    have hn1 : Int32.ofNat v + 1 = Int32.ofNat (v + 1) := ji_add v 1
    have hend : ∀ (p : Bool) (m2 : jMe), jtlb D V n bt v = p → xqF xqH m m2 → xqC D w m2 → ∃ m', c_X9_tellers_l32 F f m2 32 (89 + 2 * s) (jbi bt) (Int32.ofNat (jend D S bt)) (if p = true then Int32.ofNat (jbw v (jtlb D V n bt)) ||| jshl (1 : Int32) (Int32.ofNat v) else Int32.ofNat (jbw v (jtlb D V n bt))) (Int32.ofNat (v + 1)) = some (m', Int32.ofNat (jbw (jend D S bt) (jtlb D V n bt))) ∧ xqF xqH m m' ∧ xqC D w m' := by
      intro p m2 hp hx hC2
      obtain ⟨m', b1, b2, b3⟩ := ih (v + 1) f m2 (by omega) (fun _ => by omega) (by omega) hC2 (by rw [hx.I (by unfold xqH; omega)]; exact h2s) (fun i => by rw [hx.L (by unfold xqH; omega)]; exact hV i)
      refine ⟨m', ?_, hx.trans b2, b3⟩
      have hb16 : jbw v (jtlb D V n bt) < 65536 := Nat.lt_of_lt_of_le jbw_lt (show 2 ^ v ≤ 65536 from Nat.pow_le_pow_right (n := 2) (j := 16) (by omega) (by omega))
      have h2v : 2 ^ v < 2 ^ 16 := Nat.pow_lt_pow_right (by omega) (by omega)
      cases p with
      | true =>
        rw [jbw_st, if_pos hp] at b1
        rw [if_pos rfl, jshl_1 (by omega), ji_or (by omega) (by omega)]
        exact b1
      | false =>
        rw [jbw_s0 hp] at b1
        rw [if_neg (by decide)]
        exact b1
    have hstep : ∀ z, (if jbi g = 0 then jb (c_X9_otherwise F m1 63 (89 + 2 * s)) fun t17 => (if t17.1 = (-1 : Int32) then c_X9_tellers_l32 F f t17.2 32 (89 + 2 * s) (jbi bt) (Int32.ofNat (jend D S bt)) (Int32.ofNat (jbw v (jtlb D V n bt)) ||| (jshl (1 : Int32) (Int32.ofNat v))) (Int32.ofNat (v + 1)) else c_X9_tellers_l32 F f t17.2 32 (89 + 2 * s) (jbi bt) (Int32.ofNat (jend D S bt)) (Int32.ofNat (jbw v (jtlb D V n bt))) (Int32.ofNat (v + 1))) else c_X9_tellers_l32 F f m1 32 (89 + 2 * s) (jbi bt) (Int32.ofNat (jend D S bt)) (Int32.ofNat (jbw v (jtlb D V n bt))) (Int32.ofNat (v + 1))) = z → c_X9_tellers_l32 F (f + 1) m 32 (89 + 2 * s) (jbi bt) (Int32.ofNat (jend D S bt)) (Int32.ofNat (jbw v (jtlb D V n bt))) (Int32.ofNat v) = z := by
      intro z h
      rw [← h]
      refine hst _ _ ?_
      unfold c_X9_tellers_j77_l32
      rw [jgd_t hL9.1, a1, jb_some, jgd_t hL1.1, hL1.2.2.2.2.2.2.2.2.2.2, jgd_t a3.1.1.1, g1, hn1]
    cases hgg : g with
    | true =>
      have hp : jtlb D V n bt v = false := by
        unfold jtlb
        rw [← hg, hgg, Bool.not_true, Bool.and_false]
        rfl
      obtain ⟨m', b1, b2, b3⟩ := hend false m1 hp hx1 hC1
      refine ⟨m', hstep _ ?_, b2, b3⟩
      rw [hgg, if_neg (show ¬ jbi true = 0 by decide)]
      exact b1
    | false =>
      rw [hgg] at g1
      obtain ⟨m2, c1, c2, c3, c4, c5⟩ := q_otherwise (F := F) hF hDSv.1 hq0v (Or.inr rfl) hs hn n 0 F m1 (by omega) (by omega) a3 g1 (xq_sh hC1.1 hs).2 h2s1
      have c1 : c_X9_otherwise F m1 63 (89 + 2 * s) = some (jotr (jEv D bt v) (jL m1 (90 + 2 * s)) n 0, m2) := c1
      rw [jotr_c (V' := V) n 0 (fun i _ _ => hV1 i)] at c1
      have hx2 : xqF xqH m m2 := hx1.trans (xqF_fr c2 (fun a i q => by unfold jSdr at q; unfold xqH; omega))
      have hC2 : xqC D w m2 := xqC_fx hx2 (fun a i q => xqH_V q) hC
      have hpe : jtlb D V n bt v = decide (jotr (jEv D bt v) V n 0 = -1) := by
        unfold jtlb
        rw [decide_eq_false hq0v, ← hg, hgg]
        rfl
      by_cases e : jotr (jEv D bt v) V n 0 = -1
      · obtain ⟨m', b1, b2, b3⟩ := hend true m2 (by rw [hpe]; exact decide_eq_true e) hx2 hC2
        refine ⟨m', hstep _ ?_, b2, b3⟩
        rw [hgg, if_pos (show jbi false = 0 from rfl), c1, jb_some, if_pos e]
        exact b1
      · obtain ⟨m', b1, b2, b3⟩ := hend false m2 (by rw [hpe]; exact decide_eq_false e) hx2 hC2
        refine ⟨m', hstep _ ?_, b2, b3⟩
        rw [hgg, if_pos (show jbi false = 0 from rfl), c1, jb_some, if_neg e]
        exact b1
theorem xi_c2 {α : Type} {x : Int32} {A B : α} : (if x < 0 then A else if x ≤ (2 : Int32) then B else A) = if jbt2 x 0 2 = true then B else A := xi_le (lo := 0) (hi := 2) (by omega) (by omega)
theorem xq_tells (hF : 2000 < F) (hDS : jDS D S) (hw : w = S.1) (h : xqQ D w m) {H : jHt} (hH : xHm H m) {x1 x2 : Int32} : ∃ m', c_X9_tells F m 32 x1 x2 = some (jtls D H S x1 x2, m') ∧ xqF xqO m m' ∧ xqQ D w m' := by
  have hB := h.1
  have hL := hB.2.1.1
  unfold c_X9_tells jtls
  rw [xq_isSheet, jb_some, xi_c2]
  cases e1 : jin x1 4 with
  | false => exact ⟨m, rfl, xqF.rfl, h⟩
  | true =>
    obtain ⟨s, rfl, hs2, hs⟩ := jin_nat e1
    rw [if_neg (show ¬ jbi true = 0 by decide), Bool.true_and]
    cases e2 : jbt2 x2 0 2 with
    | false => exact ⟨m, rfl, xqF.rfl, h⟩
    | true =>
      obtain ⟨k, rfl, hk2, -, hk⟩ := jbt2_nat e2
      rw [if_pos (show true = true from rfl), if_pos (show true = true from rfl), jgd_t hL.1, hB.2.2.2.2.1.2.2.2, ji_n hs2]
      by_cases hq0 : jDq D = 0
      · rw [if_pos ((jDq_0 hB.1).mpr hq0), if_pos hq0]
        exact ⟨m, rfl, xqF.rfl, h⟩
      rw [if_neg (fun h => hq0 ((jDq_0 hB.1).mp h)), if_neg hq0]
      obtain ⟨m1, a1, a2, a3, a4⟩ := xq_told (F := F) hF h (g := jgB D) jgB_iff
      have hJ := a3.2.2.1.1.1
      have hB1 := a3.1
      have hL1 := hB1.2.1.1
      have h21 := hB1.2.1.2.2.1
      have hH1 : xHm H m1 := xHm_fx a2 (fun a i q1 q2 z => by unfold xqO at z; omega) hH
      obtain ⟨p1, p2⟩ := xq_sh hB1 hs
      obtain ⟨k1, l2, k3, k4, k5, k6⟩ := hH1 s hs
      rw [a1, jb_some]
      dsimp only
      rw [jgd_t hJ.1]
      rcases a4 with ⟨e5, e6, e7⟩ | ⟨e5, e7⟩
      · rw [e7, jb_some, if_neg (show ¬ (1 : Int32) = 0 by decide), jgd_t hL1.1, hL1.2.2.2.1, jgd_t h21.2.2.1, h21.2.2.2.1, jgd_t (ji_int hs2 hs), p1, jgd_t p2.1, k1, if_neg (show ¬ jgB D = true by rw [e6]; decide)]
        cases e3 : H.1 s with
        | false => exact ⟨m1, rfl, a2, xqC_Q a3⟩
        | true =>
          have k4 := k4 e3
          rw [if_pos (show true = true from rfl), if_pos (show true = true from rfl), if_neg (show ¬ Int32.ofNat (H.2.1 s) = -1 from ji_ne1 (by omega)), jgd_t (ji_int hs2 hs), l2]
          by_cases e4 : H.2.2.1 s ≤ 12
          · have hV : ∀ i, i < H.2.2.1 s → jL m1 (90 + 2 * s) i = H.2.2.2 s i := k6
            rw [if_pos (show Int32.ofNat (H.2.2.1 s) ≤ (12 : Int32) from ji_lep (b := 12) (by omega) (by omega) e4), if_pos e4]
            by_cases k0 : k = 0
            · have hgr := (xq_great a3 (g := jgB D) jgB_iff).1
              rw [e6] at hgr
              obtain ⟨m2, c1, c2, c3, c4, c5⟩ := q_otherwise (F := F) hF hB.1 hq0 (Or.inl rfl) hs k3 (H.2.2.1 s) 0 F m1 (by omega) (by omega) a3.2.2.1 hgr p2 l2
              have c1 : c_X9_otherwise F m1 49 (89 + 2 * s) = some (jotr D (jL m1 (90 + 2 * s)) (H.2.2.1 s) 0, m2) := c1
              rw [jotr_c (V' := H.2.2.2 s) _ 0 (fun i _ hi => hV i (by omega))] at c1
              obtain ⟨d1, d2⟩ := xqC_dr a3 c2 c3 c4
              rw [if_pos (show Int32.ofNat k = 0 by rw [k0]; rfl), if_pos (show Int32.ofNat k = 0 by rw [k0]; rfl), xq_cur0 a3, jb_some]
              dsimp only
              rw [jgd_t hL1.1, hL1.2.2.2.1, jgd_t h21.2.2.1, h21.2.2.2.1, jgd_t (ji_int hs2 hs), p1, c1, jb_some]
              exact ⟨m2, rfl, a2.trans d2, xqC_Q d1⟩
            · rw [if_neg (show ¬ Int32.ofNat k = 0 from ji_eqn (b := 0) hk2 (by omega) k0), if_neg (show ¬ Int32.ofNat k = 0 from ji_eqn (b := 0) hk2 (by omega) k0)]
              have hw6 := hB1.2.2.2.2.2.1
              have hn4 := hB.1.1
              by_cases kk : k = 1
              · obtain ⟨m2, b1, b2, b3⟩ := xq_tellers_l32 (F := F) hF hDS hq0 hw (bt := true) hs k3 (V := jL m1 (90 + 2 * s)) (jend D S true) 0 F m1 (by omega) (fun q => by cases q) (by have := jend_le (D := D) (S := S) hDS (bt := true); omega) a3 l2 (fun _ => rfl)
                have b1 : c_X9_tellers_l32 F F m1 32 (89 + 2 * s) (1 : Int32) (Int32.ofNat S.1) (0 : Int32) (0 : Int32) = some (m2, Int32.ofNat (jbw S.1 (jtlb D (jL m1 (90 + 2 * s)) (H.2.2.1 s) true))) := b1
                rw [jtlb_c hV] at b1
                rw [if_pos (show Int32.ofNat k = 1 by rw [kk]; rfl), if_pos (show Int32.ofNat k = 1 by rw [kk]; rfl), jgd_t (ji_int hs2 hs)]
                unfold c_X9_tellers c_X9_tellers_j17
                rw [if_neg (show ¬ (1 : Int32) = 0 by decide), if_neg (show ¬ (1 : Int32) = 0 by decide), jgd_t hL1.1, hB1.2.2.2.2.1.2.1, hw, b1, jb_some, jb_some]
                exact ⟨m2, rfl, a2.trans (b2.weak (fun a i q => xqH_O q)), hw ▸ xqC_Q b3⟩
              · have h1e : 1 ≤ 2 ^ jDn D := Nat.one_le_two_pow
                obtain ⟨m2, b1, b2, b3⟩ := xq_tellers_l32 (F := F) hF hDS hq0 hw (bt := false) hs k3 (V := jL m1 (90 + 2 * s)) (jend D S false - 1) 1 F m1 (by show 1 + (2 ^ jDn D - 1) = 2 ^ jDn D; omega) (fun _ => Nat.le_refl 1) (by have := jend_le (D := D) (S := S) hDS (bt := false); omega) a3 l2 (fun _ => rfl)
                have hp0 : jtlb D (jL m1 (90 + 2 * s)) (H.2.2.1 s) false 0 = false := by
                  unfold jtlb
                  rw [decide_eq_true (show jDq (jEv D false 0) = 0 from rfl)]
                  rfl
                rw [jbw_s0 hp0] at b1
                have b1 : c_X9_tellers_l32 F F m1 32 (89 + 2 * s) (0 : Int32) (Int32.ofNat (2 ^ jDn D)) (0 : Int32) (1 : Int32) = some (m2, Int32.ofNat (jbw (2 ^ jDn D) (jtlb D (jL m1 (90 + 2 * s)) (H.2.2.1 s) false))) := b1
                rw [jtlb_c hV] at b1
                rw [if_neg (show ¬ Int32.ofNat k = 1 from ji_eqn (b := 1) hk2 (by omega) kk), if_neg (show ¬ Int32.ofNat k = 1 from ji_eqn (b := 1) hk2 (by omega) kk), jgd_t (ji_int hs2 hs)]
                unfold c_X9_tellers c_X9_tellers_j17
                rw [if_pos rfl, if_pos rfl, jgd_t hL1.1, hB1.2.2.2.2.1.1, jshl_1 (by omega), b1, jb_some, jb_some]
                exact ⟨m2, rfl, a2.trans (b2.weak (fun a i q => xqH_O q)), xqC_Q b3⟩
          · rw [if_neg (show ¬ Int32.ofNat (H.2.2.1 s) ≤ (12 : Int32) from ji_len (b := 12) (by omega) (by omega) e4), if_neg e4]
            exact ⟨m1, rfl, a2, xqC_Q a3⟩
      · have hgt : jgB D = true := by
          cases hgg : jgB D with
          | true => rfl
          | false => exact absurd ⟨hq0, hgg⟩ e5
        rw [e7, jb_some, if_pos rfl, if_pos hgt]
        exact ⟨m1, rfl, a2, xqC_Q a3⟩
end XTELLS
