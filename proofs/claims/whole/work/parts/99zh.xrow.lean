/-! relations, rows, as the class adds them -/
section XROW
variable {F w : Nat} {D : jD} {m : jMe}
theorem jnb_15 {a b : Nat} (ha : a < 6) (hb : b < 8) : jnb (Int32.ofNat (15 * 16 ^ a)) b = if b = a then 15 else 0 := by
  have : ∀ a : Fin 6, ∀ b : Fin 8, jnb (Int32.ofNat (15 * 16 ^ a.1)) b.1 = if b.1 = a.1 then 15 else 0 := by decide +kernel
  exact this ⟨a, ha⟩ ⟨b, hb⟩
theorem jnb_v {a b v : Nat} (ha : a < 6) (hb : b < 8) (hv : v < 10) : jnb (Int32.ofNat (v * 16 ^ a)) b = if b = a then v else 0 := by
  have : ∀ a : Fin 6, ∀ b : Fin 8, ∀ v : Fin 10, jnb (Int32.ofNat (v.1 * 16 ^ a.1)) b.1 = if b.1 = a.1 then v.1 else 0 := by decide +kernel
  exact this ⟨a, ha⟩ ⟨b, hb⟩ ⟨v, hv⟩
theorem q_begin_l27 {r A : Nat} (hA : A < 64) : ∀ (t a g : Nat) (m : jMe), a + t = 6 → t < g → jK m (jrc r) = 36 → jI m (jrc r) 3 = Int32.ofNat A → (∀ b, b < 8 → jnb (jI m (jrc r) 4) b = if decide (b < a) && A.testBit b then 15 else 0) → ∃ m', c_X4_begin_l27 F g m (jrc r) (Int32.ofNat a) = some m' ∧ jfx (fun b i => b = jrc r ∧ i = 4) m m' ∧ ∀ b, b < 8 → jnb (jI m' (jrc r) 4) b = if A.testBit b then 15 else 0 := by
  intro t
  induction t with
  | zero =>
    intro a g m h1 h2 hK h3 h4
    obtain ⟨g, rfl⟩ := jsucc h2
    refine ⟨m, ?_, jfx.rfl, fun b hb => ?_⟩
    · show c_X4_begin_l27_b F _ m _ _ = _
      unfold c_X4_begin_l27_b
      rw [if_pos (show (6 : Int32) ≤ Int32.ofNat a from ji_lep (a := 6) (by omega) (by omega) (by omega))]
    · rw [h4 b hb]
      by_cases e : b < a
      · rw [decide_eq_true e, Bool.true_and]
      · rw [decide_eq_false e, Bool.false_and, Nat.testBit_lt_two_pow (Nat.lt_of_lt_of_le hA (jp2 (i := 6) (j := b) (by omega)))]
  | succ t ih =>
    intro a g m h1 h2 hK h3 h4
    obtain ⟨g, rfl⟩ := jsucc h2
    have key : ∀ x : Nat, (x = if A.testBit a = true then 15 * 16 ^ a else 0) → x < 4294967296 → ∃ m', c_X4_begin_l27 F g (jsI m (jrc r) 4 (jI m (jrc r) 4 ||| Int32.ofNat x)) (jrc r) (Int32.ofNat (a + 1)) = some m' ∧ jfx (fun b i => b = jrc r ∧ i = 4) m m' ∧ ∀ b, b < 8 → jnb (jI m' (jrc r) 4) b = if A.testBit b then 15 else 0 := by
      intro x hx _
      obtain ⟨m', a1, a2, a3⟩ := ih (a + 1) g (jsI m (jrc r) 4 (jI m (jrc r) 4 ||| Int32.ofNat x)) (by omega) (by omega) hK (by rw [jsI_no (by omega)]; exact h3) (fun b hb => by
        rw [jsI_y, jnb_or, h4 b hb, hx]
        by_cases e : A.testBit a = true
        · rw [if_pos e, jnb_15 (by omega) hb]
          by_cases e2 : b = a
          · subst e2
            rw [if_pos rfl, decide_eq_false (by omega), decide_eq_true (by omega), e]
            rfl
          · rw [if_neg e2, Nat.or_zero]
            by_cases e3 : b < a
            · rw [decide_eq_true e3, decide_eq_true (show b < a + 1 by omega)]
            · rw [decide_eq_false e3, decide_eq_false (show ¬ b < a + 1 by omega)]
        · rw [if_neg e, show Int32.ofNat 0 = 0 from rfl, jnb_0, Nat.or_zero]
          by_cases e2 : b = a
          · subst e2
            rw [Bool.eq_false_iff.mpr e, Bool.and_false, Bool.and_false]
          · by_cases e3 : b < a
            · rw [decide_eq_true e3, decide_eq_true (show b < a + 1 by omega)]
            · rw [decide_eq_false e3, decide_eq_false (show ¬ b < a + 1 by omega)])
      exact ⟨m', a1, (jfx_I ⟨rfl, rfl⟩).trans a2, a3⟩
    have hst : ∀ z, c_X4_begin_l27 F g (jsI m (jrc r) 4 (jI m (jrc r) 4 ||| Int32.ofNat (if A.testBit a = true then 15 * 16 ^ a else 0))) (jrc r) (Int32.ofNat (a + 1)) = z → c_X4_begin_l27 F (g + 1) m (jrc r) (Int32.ofNat a) = z := by
      intro z h
      rw [← h]
      show c_X4_begin_l27_b F _ m _ _ = _
      unfold c_X4_begin_l27_b c_X4_begin_j59_l27
      rw [if_neg (show ¬ (6 : Int32) ≤ Int32.ofNat a from ji_len (a := 6) (by omega) (by omega) (by omega)), jgd_t hK, h3, q_isIn (by omega) (by omega), jb_some, jgd_t hK, jgd_t hK, show (4 : Int32) * Int32.ofNat a = Int32.ofNat (4 * a) from ji_mul 4 a, jshl_15 (by omega), show Int32.ofNat a + 1 = Int32.ofNat (a + 1) from ji_add a 1]
      cases e : A.testBit a with
      | false => rfl
      | true => rfl
    obtain ⟨m', a1, a2, a3⟩ := key _ rfl (by
      have h16 : 16 ^ a ≤ 16 ^ 5 := Nat.pow_le_pow_right (by omega) (by omega)
      split <;> omega)
    exact ⟨m', hst _ a1, a2, a3⟩
theorem q_begin (hF : 100 < F) {r A k : Nat} (hA : A < 64) (hK : jK m (jrc r) = 36) : ∃ m', c_X4_begin F m (jrc r) (Int32.ofNat k) (Int32.ofNat A) = some m' ∧ jfx (fun b _ => b = jrc r) m m' ∧ jI m' (jrc r) 2 = Int32.ofNat k ∧ jI m' (jrc r) 3 = Int32.ofNat A ∧ (∀ b, b < 8 → jnb (jI m' (jrc r) 4) b = if A.testBit b then 15 else 0) ∧ jI m' (jrc r) 5 = 0 ∧ jI m' (jrc r) 6 = 0 := by
  generalize hm0 : jsI (jsI (jsI (jsI (jsI m (jrc r) 2 (Int32.ofNat k)) (jrc r) 3 (Int32.ofNat A)) (jrc r) 5 (0 : Int32)) (jrc r) 6 (0 : Int32)) (jrc r) 4 (0 : Int32) = m0
  have hx0 : jfx (fun b _ => b = jrc r) m m0 := by
    rw [← hm0]
    have s : ∀ (m : jMe) (i : Nat) (v : Int32), jfx (fun b _ => b = jrc r) m (jsI m (jrc r) i v) := fun m i v => jfx_I (S := fun b _ => b = jrc r) (Eq.refl _)
    exact ((((s m 2 _).trans (s _ 3 _)).trans (s _ 5 _)).trans (s _ 6 _)).trans (s _ 4 _)
  have g2 : jI m0 (jrc r) 2 = Int32.ofNat k := by rw [← hm0, jsI_no (by omega), jsI_no (by omega), jsI_no (by omega), jsI_no (by omega), jsI_y]
  have g3 : jI m0 (jrc r) 3 = Int32.ofNat A := by rw [← hm0, jsI_no (by omega), jsI_no (by omega), jsI_no (by omega), jsI_y]
  have g5 : jI m0 (jrc r) 5 = 0 := by rw [← hm0, jsI_no (by omega), jsI_no (by omega), jsI_y]
  have g6 : jI m0 (jrc r) 6 = 0 := by rw [← hm0, jsI_no (by omega), jsI_y]
  have g4 : jI m0 (jrc r) 4 = 0 := by rw [← hm0, jsI_y]
  obtain ⟨m', a1, a2, a3⟩ := q_begin_l27 (F := F) hA 6 0 F m0 (by omega) (by omega) (by rw [hx0.K]; exact hK) g3 (fun b hb => by rw [g4, jnb_0]; rfl)
  have a1 : c_X4_begin_l27 F F m0 (jrc r) (0 : Int32) = some m' := a1
  refine ⟨m', ?_, hx0.trans (a2.weak (fun b i q => q.1)), by rw [a2.I (by omega)]; exact g2, by rw [a2.I (by omega)]; exact g3, a3, by rw [a2.I (by omega)]; exact g5, by rw [a2.I (by omega)]; exact g6⟩
  unfold c_X4_begin
  rw [jgd_t hK, hm0, a1, jb_some]
theorem xq_relation (hF : 100 < F) (h : xqQ D w m) {x1 x2 : Int32} : ∃ m', c_X9_relation F m 32 x1 x2 = some ((jrela D x1 x2).1, m') ∧ xqF xqW m m' ∧ xqQ (jrela D x1 x2).2 w m' := by
  have hB := h.1
  have hL := hB.2.1.1
  have hR := hB.2.1.2.1.1
  have hn := hB.1.1
  unfold c_X9_relation jrela
  rw [xi_c63, xi_g6, show jin x1 6 = jbt2 x1 0 5 from (jbt_jin (v := x1) (n := 5)).symm]
  cases e1 : jbt2 x1 0 5 with
  | false => exact ⟨m, rfl, xqF.rfl, h⟩
  | true =>
    rw [if_pos rfl, Bool.true_and]
    cases e2 : jbt2 x2 1 63 with
    | false => exact ⟨m, rfl, xqF.rfl, h⟩
    | true =>
      obtain ⟨k, rfl, hk2, hk⟩ := jbt2_nat e1
      obtain ⟨A, rfl, hA2, hA⟩ := jbt2_nat e2
      have hp8 := jpop_le 8 A
      rw [if_pos rfl, Bool.true_and, ji_n hk2, ji_n hA2, jbitCount (by omega), jb_some]
      by_cases e3 : jpop 8 A ≤ 3
      · rw [if_pos (show Int32.ofNat (jpop 8 A) ≤ (3 : Int32) from ji_lep (b := 3) (by omega) (by omega) e3), decide_eq_true e3, if_pos rfl, jgd_t hL.1, hB.2.2.2.2.1.1]
        by_cases e4 : jDn D = 4
        · rw [if_neg (show ¬ Int32.ofNat (jDn D) < (4 : Int32) from ji_ltn (b := 4) (by omega) (by omega) (by omega)), if_pos e4]
          exact ⟨m, rfl, xqF.rfl, h⟩
        · have hn4 : jDn D < 4 := by omega
          have hrr := xq_rel hB hn4
          rw [if_pos (show Int32.ofNat (jDn D) < (4 : Int32) from ji_ltp (b := 4) (by omega) (by omega) hn4), if_neg e4, hL.2.1, jgd_t hR.1, hR.2.1, jgd_t (ji_int (by omega) hn4), ji_n (by omega), hrr.1, jgd_t hrr.2.1]
          obtain ⟨m1, a1, a2, a3, a4, a5, a6, a7⟩ := q_begin (F := F) (r := jDn D) (A := A) (k := k) hF (by omega) hrr.2.1
          rw [a1, jb_some, jgd_t (show jK m1 32 = 41 by rw [a2.K]; exact hL.1), jsI_y, jsI_no (by omega), a2.I (show ¬ 32 = jrc (jDn D) by unfold jrc; omega), hB.2.2.2.2.1.1, show Int32.ofNat (jDn D) + 1 = Int32.ofNat (jDn D + 1) from ji_add (jDn D) 1, show Int32.ofNat (jDn D + 1) - 1 = Int32.ofNat (jDn D) from ji_sub1 (by omega)]
          have hx1 : xqF xqW m (jsI (jsI m1 32 10 1) 32 11 (Int32.ofNat (jDn D + 1))) := ((xqF_x a2).weak (fun b i q => by rw [q]; exact xqW_rc hn4)).trans ((xqF_x (jfx_I (by unfold xqW; omega))).trans (xqF_x (jfx_I (by unfold xqW; omega))))
          have hC1 : ∀ x, x < 4 → jCr (jUn D k A) m1 x := by
            intro x hx
            obtain ⟨c1, c2, c3, c4, c5, c6⟩ := hB.2.2.2.1 x hx
            have hc2 : jI m1 (jrv x) = jI m (jrv x) := funext fun i => a2.I (by unfold jrv jrc; omega)
            have hc3 : jI m1 (jrk x) = jI m (jrk x) := funext fun i => a2.I (by unfold jrk jrc; omega)
            by_cases e : x = jDn D
            · subst e
              have hz := hB.1.2.2.2.2 (jDn D) (by omega)
              refine ⟨?_, ?_, fun b hb => ?_, ?_, ?_, fun y hy => ?_⟩
              · rw [jUn_k, if_pos rfl]; exact a3
              · rw [jUn_a, if_pos rfl]; exact a4
              · rw [jUn_a, if_pos rfl]; exact a5 b hb
              · show _ = Int32.ofNat (jDz D (jDn D))
                rw [hz.1]; exact a6
              · show _ = Int32.ofNat (jDl D (jDn D))
                rw [hz.2]; exact a7
              · have hy : y < jDz D (jDn D) := hy
                omega
            · have hc1 : jI m1 (jrc x) = jI m (jrc x) := funext fun i => a2.I (by unfold jrc; omega)
              refine ⟨?_, ?_, fun b hb => ?_, ?_, ?_, fun y hy => ?_⟩
              · rw [jUn_k, if_neg e, hc1]; exact c1
              · rw [jUn_a, if_neg e, hc1]; exact c2
              · rw [jUn_a, if_neg e, hc1]; exact c3 b hb
              · rw [hc1]; exact c4
              · rw [hc1]; exact c5
              · rw [hc2, hc3]; exact c6 y hy
          refine ⟨_, rfl, hx1, xqQ_s (xqB_mk (D' := jUn D k A) hB hx1 (jDok_n hB.1 hn4 (by omega) (by omega) e3) (jCr_32 (jCr_32 hC1)) ?_ ?_ ?_ hB.2.2.2.2.2.1.2.2 (fun _ => rfl)) (by rw [jsI_no (by omega)]; exact jsI_y)⟩
          · rw [jsI_y]
            rfl
          · rw [jsI_no (by omega), jsI_no (by omega), a2.I (show ¬ 32 = jrc (jDn D) by unfold jrc; omega)]
            exact hB.2.2.2.2.1.2.2.1
          · rw [jsI_no (by omega), jsI_no (by omega), a2.I (show ¬ 32 = jrc (jDn D) by unfold jrc; omega)]
            exact hB.2.2.2.2.1.2.2.2
      · rw [if_neg (show ¬ Int32.ofNat (jpop 8 A) ≤ (3 : Int32) from ji_len (b := 3) (by omega) (by omega) e3), decide_eq_false e3]
        exact ⟨m, rfl, xqF.rfl, h⟩
/-- values are packed -/
theorem q_packed_l9 {r : Nat} (hK : jK m (jrc r) = 36) {A : Nat} (hA : A < 64) (h3 : jI m (jrc r) 3 = Int32.ofNat A) {x y z : Int32} : ∀ (t a i g : Nat) (W0 : Int32) (f0 : Nat → Nat), a + t = 6 → t < g → i ≤ a → (∀ b, b < 8 → jnb W0 b = f0 b) → (∀ b, a ≤ b → f0 b = 0) → (jpkd A (jxyz x y z) t a i = none ∧ c_X4_packed_l9 F m g (jrc r) x y z W0 (Int32.ofNat i) (Int32.ofNat a) = some (.inl (-1))) ∨ ∃ f W, jpkd A (jxyz x y z) t a i = some f ∧ c_X4_packed_l9 F m g (jrc r) x y z W0 (Int32.ofNat i) (Int32.ofNat a) = some (.inr W) ∧ (∀ b, b < a → f b = 0) ∧ ∀ b, b < 8 → jnb W b = if b < a then f0 b else f b := by
  intro t
  induction t with
  | zero =>
    intro a i g W0 f0 h1 h2 hi h4 h5
    obtain ⟨g, rfl⟩ := jsucc h2
    refine Or.inr ⟨fun _ => 0, W0, rfl, ?_, fun _ _ => rfl, fun b hb => ?_⟩
    · show c_X4_packed_l9_b F _ m _ _ _ _ _ _ _ = _
      unfold c_X4_packed_l9_b
      rw [if_pos (show (6 : Int32) ≤ Int32.ofNat a from ji_lep (a := 6) (by omega) (by omega) (by omega))]
    · rw [h4 b hb]
      by_cases e : b < a
      · rw [if_pos e]
      · rw [if_neg e, h5 b (by omega)]
  | succ t ih =>
    intro a i g W0 f0 h1 h2 hi h4 h5
    obtain ⟨g, rfl⟩ := jsucc h2
    have hst : ∀ u, (if jbi (A.testBit a) = 0 then c_X4_packed_l9 F m g (jrc r) x y z W0 (Int32.ofNat i) (Int32.ofNat (a + 1)) else if jin (jxyz x y z i) 10 = true then c_X4_packed_l9 F m g (jrc r) x y z (W0 ||| jshl (jxyz x y z i) (Int32.ofNat (4 * a))) (Int32.ofNat (i + 1)) (Int32.ofNat (a + 1)) else some (.inl (-1))) = u → c_X4_packed_l9 F m (g + 1) (jrc r) x y z W0 (Int32.ofNat i) (Int32.ofNat a) = u := by
      intro u h
      rw [← h]
      show c_X4_packed_l9_b F _ m _ _ _ _ _ _ _ = _
      unfold c_X4_packed_l9_b c_X4_packed_j48_l9
      rw [if_neg (show ¬ (6 : Int32) ≤ Int32.ofNat a from ji_len (a := 6) (by omega) (by omega) (by omega)), jgd_t hK, h3, q_isIn (by omega) (by omega), jb_some, show (4 : Int32) * Int32.ofNat a = Int32.ofNat (4 * a) from ji_mul 4 a, show Int32.ofNat a + 1 = Int32.ofNat (a + 1) from ji_add a 1, show Int32.ofNat i + 1 = Int32.ofNat (i + 1) from ji_add i 1, xi_n10, xi_n10, xi_n10]
      unfold jxyz
      by_cases e0 : i = 0
      · rw [if_pos (show Int32.ofNat i = 0 by rw [e0]; rfl), if_pos e0]
      · rw [if_neg (show ¬ Int32.ofNat i = 0 from ji_eqn (b := 0) (by omega) (by omega) e0), if_neg e0]
        by_cases e1 : i = 1
        · rw [if_pos (show Int32.ofNat i = 1 by rw [e1]; rfl), if_pos e1]
        · rw [if_neg (show ¬ Int32.ofNat i = 1 from ji_eqn (b := 1) (by omega) (by omega) e1), if_neg e1]
    unfold jpkd
    cases e : A.testBit a with
    | false =>
      rw [if_neg (by decide)]
      rcases ih (a + 1) i g W0 f0 (by omega) (by omega) (by omega) h4 (fun b hb => h5 b (by omega)) with ⟨a1, a2⟩ | ⟨f, W, a1, a2, a3, a4⟩
      · refine Or.inl ⟨a1, hst _ ?_⟩
        rw [e, if_pos (by decide)]
        exact a2
      · refine Or.inr ⟨f, W, a1, hst _ ?_, fun b hb => a3 b (by omega), fun b hb => ?_⟩
        · rw [e, if_pos (by decide)]
          exact a2
        · rw [a4 b hb]
          by_cases e2 : b < a
          · rw [if_pos e2, if_pos (by omega)]
          · rw [if_neg e2]
            by_cases e3 : b < a + 1
            · rw [if_pos e3, a3 b e3, h5 b (by omega)]
            · rw [if_neg e3]
    | true =>
      rw [if_pos rfl]
      cases e2 : jin (jxyz x y z i) 10 with
      | false =>
        refine Or.inl ⟨by rw [if_neg (by decide)], hst _ ?_⟩
        rw [e, if_neg (by decide), e2, if_neg (by decide)]
      | true =>
        obtain ⟨v, hv, hv2, hv10⟩ := jin_nat e2
        rw [if_pos rfl]
        have h4' : ∀ b, b < 8 → jnb (W0 ||| jshl (jxyz x y z i) (Int32.ofNat (4 * a))) b = (fun b => if b = a then v else f0 b) b := by
          intro b hb
          show _ = if b = a then v else f0 b
          rw [hv, jshl_v (by omega) hv10, jnb_or, jnb_v (by omega) hb hv10, h4 b hb]
          by_cases q : b = a
          · rw [if_pos q, if_pos q, h5 b (by omega), Nat.zero_or]
          · rw [if_neg q, if_neg q, Nat.or_zero]
        rcases ih (a + 1) (i + 1) g _ _ (by omega) (by omega) (by omega) h4' (fun b hb => by show (if b = a then v else f0 b) = 0; rw [if_neg (by omega)]; exact h5 b (by omega)) with ⟨a1, a2⟩ | ⟨f, W, a1, a2, a3, a4⟩
        · refine Or.inl ⟨by rw [a1], hst _ ?_⟩
          rw [e, if_neg (by decide), e2, if_pos rfl]
          exact a2
        · refine Or.inr ⟨_, W, by rw [a1], hst _ ?_, fun b hb => ?_, fun b hb => ?_⟩
          · rw [e, if_neg (by decide), e2, if_pos rfl]
            exact a2
          · show (if b = a then _ else f b) = 0
            rw [if_neg (by omega)]
            exact a3 b (by omega)
          · rw [a4 b hb, hv, ji_n hv2]
            show (if b < a + 1 then (if b = a then v else f0 b) else f b) = if b < a then f0 b else if b = a then v else f b
            by_cases q : b = a
            · rw [if_pos (by omega), if_pos q, if_neg (by omega), if_pos q]
            · rw [if_neg q, if_neg q]
              by_cases q2 : b < a
              · rw [if_pos q2, if_pos (by omega)]
              · rw [if_neg q2, if_neg (by omega)]
theorem q_packed (hF : 100 < F) {r : Nat} (hK : jK m (jrc r) = 36) {A : Nat} (hA : A < 64) (h3 : jI m (jrc r) 3 = Int32.ofNat A) {x y z : Int32} : (jpkd A (jxyz x y z) 6 0 0 = none ∧ c_X4_packed F m (jrc r) x y z = some (-1)) ∨ ∃ f W, jpkd A (jxyz x y z) 6 0 0 = some f ∧ c_X4_packed F m (jrc r) x y z = some W ∧ ∀ b, b < 8 → jnb W b = f b := by
  unfold c_X4_packed
  rcases q_packed_l9 (F := F) hK hA h3 (x := x) (y := y) (z := z) 6 0 0 F 0 (fun _ => 0) (by omega) (by omega) (by omega) (fun b hb => jnb_0 b) (fun _ _ => rfl) with ⟨a1, a2⟩ | ⟨f, W, a1, a2, a3, a4⟩
  · refine Or.inl ⟨a1, ?_⟩
    rw [show c_X4_packed_l9 F m F (jrc r) x y z (0 : Int32) (0 : Int32) (0 : Int32) = _ from a2]
    rfl
  · refine Or.inr ⟨f, W, a1, ?_, fun b hb => by rw [a4 b hb, if_neg (by omega)]⟩
    rw [show c_X4_packed_l9 F m F (jrc r) x y z (0 : Int32) (0 : Int32) (0 : Int32) = _ from a2]
    rfl
/-- a row is added -/
theorem q_add {r : Nat} (hL : jLr m r) {z l : Nat} (hz : z < 8) (h5 : jI m (jrc r) 5 = Int32.ofNat z) (h6 : jI m (jrc r) 6 = Int32.ofNat l) (hl : l < 256) {W V : Int32} : ∃ m', c_X4_add F m (jrc r) W V = some (Int32.ofNat z, m') ∧ jfx (fun a i => (a = jrv r ∧ i = z) ∨ (a = jrk r ∧ i = z) ∨ (a = jrc r ∧ (i = 5 ∨ i = 6))) m m' ∧ jI m' (jrv r) z = W ∧ jI m' (jrk r) z = V ∧ jI m' (jrc r) 5 = Int32.ofNat (z + 1) ∧ jI m' (jrc r) 6 = Int32.ofNat (l ||| 2 ^ z) := by
  have hs : ∀ (m1 : jMe), jLr m1 r → jI m1 (jrc r) 6 = Int32.ofNat l → c_X4_setLive F m1 (jrc r) (Int32.ofNat z) (1 : Int32) = some (jsI m1 (jrc r) 6 (Int32.ofNat (l ||| 2 ^ z))) := fun m1 q1 q2 => q_setLive (b := true) q1 q2 hl hz
  have n1 : jrc r ≠ jrv r := by unfold jrc jrv; omega
  have n2 : jrc r ≠ jrk r := by unfold jrc jrk; omega
  have n3 : jrv r ≠ jrk r := by unfold jrv jrk; omega
  refine ⟨jsI (jsI (jsI (jsI m (jrv r) z W) (jrk r) z V) (jrc r) 6 (Int32.ofNat (l ||| 2 ^ z))) (jrc r) 5 (Int32.ofNat (z + 1)), ?_, ?_, ?_, ?_, ?_, ?_⟩
  · unfold c_X4_add
    rw [jgd_t hL.1, hL.2.1, jgd_t hL.2.2.2.1, hL.2.2.2.2.1, h5, jgd_t (ji_int (by omega) hz), ji_n (by omega), jP_sI, hL.2.2.1, jgd_t hL.2.2.2.2.2.1, hL.2.2.2.2.2.2, jsI_no (fun q => n1 q.1), h5, jgd_t (ji_int (by omega) hz), ji_n (by omega), jsI_no (fun q => n2 q.1), jsI_no (fun q => n1 q.1), h5, hs (jsI (jsI m (jrv r) z W) (jrk r) z V) hL (by rw [jsI_no (fun q => n2 q.1), jsI_no (fun q => n1 q.1)]; exact h6), jb_some, jK_sI, jK_sI, jK_sI, jgd_t hL.1, jsI_y, jsI_no (show ¬ (jrc r = jrc r ∧ 5 = 6) by omega), jsI_no (fun q => n2 q.1), jsI_no (fun q => n1 q.1), h5, show Int32.ofNat z + 1 = Int32.ofNat (z + 1) from ji_add z 1, show Int32.ofNat (z + 1) - 1 = Int32.ofNat z from ji_sub1 (by omega)]
  · exact (((jfx_I (Or.inl ⟨rfl, rfl⟩)).trans (jfx_I (Or.inr (Or.inl ⟨rfl, rfl⟩)))).trans (jfx_I (Or.inr (Or.inr ⟨rfl, Or.inr rfl⟩)))).trans (jfx_I (Or.inr (Or.inr ⟨rfl, Or.inl rfl⟩)))
  · rw [jsI_no (fun q => n1 q.1.symm), jsI_no (fun q => n1 q.1.symm), jsI_no (fun q => n3 q.1), jsI_y]
  · rw [jsI_no (fun q => n2 q.1.symm), jsI_no (fun q => n2 q.1.symm), jsI_y]
  · rw [jsI_y]
  · rw [jsI_no (by omega), jsI_y]
theorem xq_addRow (hF : 100 < F) (h : xqQ D w m) {r : Nat} (hr : r < jDn D) {x y z v : Int32} : ∃ m', c_X9_addRow F m 32 (jrc r) x y z v = some ((jrowr D (Int32.ofNat r) x y z v).1, m') ∧ xqF xqW m m' ∧ xqQ (jrowr D (Int32.ofNat r) x y z v).2 w m' := by
  have hB := h.1
  have hL := hB.2.1.1
  have hr4 : r < 4 := Nat.lt_of_lt_of_le hr hB.1.1
  have hrr := xq_rel hB hr4
  have hDr := hB.1.2.2.1 r hr4
  have hC := hB.2.2.2.1 r hr4
  have hz := hDr.2.2.1
  unfold c_X9_addRow jrowr
  rw [jgd_t hrr.2.1, ji_n (show r < 2147483648 by omega), ji_int (show r < 2147483648 by omega) hr, Bool.true_and]
  rcases q_packed (F := F) hF hrr.2.1 hDr.2.1 hC.2.1 (x := x) (y := y) (z := z) with ⟨a1, a2⟩ | ⟨f, W, a1, a2, a3⟩
  · rw [a1, a2, jb_some, if_pos rfl]
    refine ⟨m, ?_, xqF.rfl, ?_⟩
    · rw [ite_self]
    · rw [ite_self]
      exact h
  · obtain ⟨s1, s2, s3⟩ := jpkd_s hB.1 hr a1
    have hW1 : ¬ W = -1 := by
      intro e
      have h6 := a3 6 (by omega)
      rw [e, s3 6 (Or.inl (by omega))] at h6
      exact absurd h6 (by decide)
    rw [a1, a2, jb_some, if_neg hW1, xi_c2g]
    cases e2 : jbt2 v 1 2000000000 with
    | false => exact ⟨m, rfl, xqF.rfl, h⟩
    | true =>
      obtain ⟨v, rfl, hv2, hv⟩ := jbt2_nat e2
      rw [if_pos rfl, if_pos rfl, ji_n hv2, q_takes hrr.2 hB.2.2.1.1 hDr hC hF a3 ⟨s3 6 (Or.inl (by omega)), s3 7 (Or.inl (by omega))⟩, jb_some]
      dsimp only
      cases e3 : jtk D r f with
      | false => exact ⟨m, rfl, xqF.rfl, h⟩
      | true =>
        rw [if_neg (show ¬ jbi true = 0 by decide), if_pos rfl, hC.2.2.2.1]
        by_cases e4 : jDz D r = 8
        · rw [if_neg (show ¬ Int32.ofNat (jDz D r) < (8 : Int32) from ji_ltn (b := 8) (by omega) (by omega) (by omega)), if_pos e4]
          exact ⟨m, rfl, xqF.rfl, h⟩
        · have h8 : jDz D r < 8 := by omega
          rw [if_pos (show Int32.ofNat (jDz D r) < (8 : Int32) from ji_ltp (b := 8) (by omega) (by omega) h8), if_neg e4, jgd_t hL.1]
          have hB0 : xqB D w (jsI m 32 10 1) := xqB_32 hB
          have hC0 := hB0.2.2.2.1 r hr4
          obtain ⟨m1, b1, b2, b3, b4, b5, b6⟩ := q_add (F := F) (W := W) (V := Int32.ofNat v) (xq_rel hB0 hr4).2 h8 hC0.2.2.2.1 hC0.2.2.2.2.1 (jl_lt hDr)
          rw [b1, jb_some]
          have hx0 : xqF xqW m (jsI m 32 10 1) := xqF_x (jfx_I (by unfold xqW; omega))
          have hx1 : xqF xqW (jsI m 32 10 1) m1 := (xqF_x b2).weak (fun a i q => Or.inl (by unfold jrv jrk jrc at q; omega))
          have hf : (∀ a, f a < 10) ∧ ∀ a, (jDa D r).testBit a = false → f a = 0 := by
            refine ⟨fun a => ?_, fun a ha => s3 a (Or.inr ha)⟩
            cases e : (jDa D r).testBit a with
            | false => rw [s3 a (Or.inr e)]; omega
            | true =>
              by_cases e6 : a < 6
              · obtain ⟨-, g2, -⟩ := jatt_all hDr.2.1 (hB.1.2.2.2.1 r hr).2
                obtain ⟨j, g3, g4⟩ := g2 a e6 e
                exact (s2 j a g4 g3).2
              · rw [s3 a (Or.inl (by omega))]; omega
          have hC1 : ∀ x, x < 4 → jCr (jUw D r f v) m1 x := by
            intro x hx
            obtain ⟨c1, c2, c3, c4, c5, c6⟩ := hB0.2.2.2.1 x hx
            have hDx := hB.1.2.2.1 x hx
            have hc : ∀ i, i ≠ 5 → i ≠ 6 → jI m1 (jrc x) i = jI (jsI m 32 10 1) (jrc x) i := fun i i1 i2 => b2.I (by unfold jrv jrk jrc; omega)
            refine ⟨by rw [hc 2 (by omega) (by omega)]; exact c1, by rw [hc 3 (by omega) (by omega)]; exact c2, by rw [hc 4 (by omega) (by omega)]; exact c3, ?_, ?_, fun y hy => ?_⟩
            · rw [jUw_z]
              by_cases e : x = r
              · subst e
                rw [if_pos rfl]
                exact b5
              · rw [if_neg e, b2.I (by unfold jrv jrk jrc; omega)]
                exact c4
            · rw [jUw_l]
              by_cases e : x = r
              · subst e
                rw [if_pos rfl]
                exact b6
              · rw [if_neg e, b2.I (by unfold jrv jrk jrc; omega)]
                exact c5
            · rw [jUw_z] at hy
              by_cases e : x = r ∧ y = jDz D r
              · obtain ⟨rfl, rfl⟩ := e
                refine ⟨fun a ha => ?_, ?_⟩
                · show _ = (if x = x ∧ jDz D x = jDz D x then f else jDv D x (jDz D x)) a
                  rw [if_pos ⟨rfl, rfl⟩, b3]
                  exact a3 a ha
                · show _ = Int32.ofNat (if x = x ∧ jDz D x = jDz D x then v else jDc D x (jDz D x))
                  rw [if_pos ⟨rfl, rfl⟩, b4]
              · have hy : y < jDz D x := by
                  by_cases q : x = r
                  · rw [if_pos q] at hy
                    have : y ≠ jDz D r := fun q2 => e ⟨q, q2⟩
                    rw [q]
                    omega
                  · rw [if_neg q] at hy
                    exact hy
                obtain ⟨d1, d2⟩ := c6 y hy
                refine ⟨fun a ha => ?_, ?_⟩
                · show _ = (if x = r ∧ y = jDz D r then f else jDv D x y) a
                  rw [if_neg e, b2.I (by unfold jrv jrk jrc; omega)]
                  exact d1 a ha
                · show _ = Int32.ofNat (if x = r ∧ y = jDz D r then v else jDc D x y)
                  rw [if_neg e, b2.I (by unfold jrv jrk jrc; omega)]
                  exact d2
          have hI32 : ∀ i, jI m1 32 i = jI (jsI m 32 10 1) 32 i := fun i => b2.I (by unfold jrv jrk jrc; omega)
          refine ⟨_, rfl, hx0.trans hx1, xqQ_s (xqB_mk (D' := jUw D r f v) hB0 hx1 (jDok_w hB.1 hr h8 hf hv) hC1 ?_ ?_ ?_ hB.2.2.2.2.2.1.2.2 (fun _ => rfl)) (by rw [hI32]; exact jsI_y)⟩
          · rw [hI32]
            exact hB0.2.2.2.2.1.1
          · rw [hI32]
            exact hB0.2.2.2.2.1.2.2.1
          · rw [hI32]
            exact hB0.2.2.2.2.1.2.2.2
theorem xq_row (hF : 100 < F) (h : xqQ D w m) {x1 x2 x3 x4 x5 : Int32} : ∃ m', c_X9_row F m 32 x1 x2 x3 x4 x5 = some ((jrowr D x1 x2 x3 x4 x5).1, m') ∧ xqF xqW m m' ∧ xqQ (jrowr D x1 x2 x3 x4 x5).2 w m' := by
  have hB := h.1
  have hL := hB.2.1.1
  have hR := hB.2.1.2.1.1
  have hn := hB.1.1
  unfold c_X9_row
  rw [jgd_t hL.1, xq_isRel hB, jb_some]
  cases e : jin x1 (jDn D) with
  | false =>
    refine ⟨m, ?_, xqF.rfl, ?_⟩
    · unfold jrowr
      rw [e]
      rfl
    · unfold jrowr
      rw [e]
      exact h
  | true =>
    obtain ⟨r, rfl, hr2, hr⟩ := jin_nat e
    have hr4 : r < 4 := by omega
    have hrr := xq_rel hB hr4
    obtain ⟨m', a1, a2, a3⟩ := xq_addRow (F := F) hF h hr (x := x2) (y := x3) (z := x4) (v := x5)
    rw [if_neg (show ¬ jbi true = 0 by decide), hL.2.1, jgd_t hR.1, hR.2.1, jgd_t (ji_int hr2 hr4), ji_n hr2, hrr.1, a1, jb_some]
    exact ⟨m', rfl, a2, a3⟩
end XROW
