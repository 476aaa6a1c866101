/-! films, lots, as the class tells them -/
section XFILM
variable {F w : Nat} {D : jD} {m : jMe}
theorem xq_drawn2 (hF : 2000 < F) (h : xqC D w m) {g : Bool} (hg : g = true ↔ jGt D) (hq0 : jDq D ≠ 0) (hgf : g = false) {z : Int32} : ∃ m', c_X2_drawn F m 49 z = some (jdgo D (jdraw D z).1, m') ∧ jfr (jSdr 49) m m' ∧ xqF xqO m m' ∧ xqC D w m' ∧ ∀ R, (jdraw D z).1 = some R → jsd D (fun x => (jDq D).testBit x) R 49 m' ∧ jdg D R 4 0 0 < 10 ^ 4 := by
  have hgr := (xq_great h hg).1
  rw [hgf] at hgr
  obtain ⟨m', a1, a2, a3, a4, a5, a6, a7⟩ := q_drawn (F := F) hF h.1.1 hq0 h.2.2.1 hgr (z := z)
  obtain ⟨b1, b2⟩ := xqC_dr h a2 a3 a4
  exact ⟨m', a1, a2, b2, b1, a7⟩
theorem xHm_c {H : jHt} {s t n : Nat} {b : Bool} {v v' : Nat → Int64} {m : jMe} (h : ∀ i, i < n → v i = v' i) (k : xHm (jHb H s b t n v) m) : xHm (jHb H s b t n v') m := by
  intro x hx
  have kx := k x hx
  unfold jHb at kx ⊢
  dsimp only at kx ⊢
  by_cases e : x = s
  · simp only [if_pos e] at kx ⊢
    obtain ⟨k1, k2, k3, k4, k5, k6⟩ := kx
    exact ⟨k1, k2, k3, k4, k5, fun i hi => by rw [k6 i hi, h i hi]⟩
  · simp only [if_neg e] at kx ⊢
    exact kx
theorem jsv1_i (x : Int32) : jsv1 (1 : Int32) (Int32.toInt64 x) = Int32.toInt64 x := by
  unfold jsv1
  rw [if_neg (by decide), if_pos rfl, Int32.toInt32_toInt64]
theorem xq_film_l59 (hF : 2000 < F) {g : Bool} (hg : g = true ↔ jGt D) (hq0 : jDq D ≠ 0) (hgf : g = false) {H : jHt} {s n : Nat} (hs : s < 4) (hn : n ≤ 12) : ∀ (t k f : Nat) (m : jMe), k + t = n → t < f → xqC D w m → xHm (jHb H s true 1 n (jfmv D k)) m → ∃ m', c_X9_film_l59 F f m 32 (Int32.ofNat s) (Int32.ofNat n) 49 (Int32.ofNat k) = some (m', Int32.ofNat n) ∧ xqF (fun a i => xqO a i ∨ xqS a i) m m' ∧ xqC D w m' ∧ xHm (jHb H s true 1 n (jdrv D)) m' := by
  intro t
  induction t with
  | zero =>
    intro k f m h1 h2 hY hH
    obtain ⟨f, rfl⟩ := jsucc h2
    refine ⟨m, ?_, xqF.rfl, hY, xHm_c (fun i hi => if_pos (by omega)) hH⟩
    show c_X9_film_l59_b F _ m _ _ _ _ _ = _
    unfold c_X9_film_l59_b
    rw [if_pos (ji_lep (by omega) (by omega) (by omega))]
  | succ t ih =>
    intro k f m h1 h2 hY hH
    obtain ⟨f, rfl⟩ := jsucc h2
    have hL := hY.1.2.1.1
    have h2' := hY.1.2.1.2.2.1
    obtain ⟨p1, p2⟩ := xq_sh hY.1 hs
    obtain ⟨m1, b1, b2, b3, b4, b5⟩ := xq_drawn2 (F := F) hF hY hg hq0 hgf (z := Int32.ofNat k)
    have hH1 : xHm (jHb H s true 1 n (jfmv D k)) m1 := xHm_fx b3 (fun a i q1 q2 z => by unfold xqO at z; omega) hH
    obtain ⟨q1, q2⟩ := xq_sh b4.1 hs
    have hi : jI m1 (89 + 2 * s) 1 = Int32.ofNat 1 := by
      have := (hH1 s hs).1
      unfold jHb at this
      dsimp only at this
      simp only [if_pos (Eq.refl s)] at this
      exact this
    have hH2 := xHm_i (s := s) (i := k) (v := jdrv D k) b4.1 hs (by show k < (if s = s then n else _); rw [if_pos rfl]; omega) hH1
    rw [jHi_b, jfmv_s] at hH2
    have hx2 : xqF xqS m1 (jsL m1 (90 + 2 * s) k (jdrv D k)) := xqF_x (jfx_L (by unfold xqS; omega))
    have hC2 : xqC D w (jsL m1 (90 + 2 * s) k (jdrv D k)) := xqC_fx hx2 (fun a i q => by unfold xqS at q; unfold xqV; omega) b4
    obtain ⟨m', a1, a2, a3, a4⟩ := ih (k + 1) f (jsL m1 (90 + 2 * s) k (jdrv D k)) (by omega) (by omega) hC2 hH2
    refine ⟨m', ?_, ((b3.weak (fun a i q => Or.inl q)).trans (hx2.weak (fun a i q => Or.inr q))).trans a2, a3, a4⟩
    show c_X9_film_l59_b F _ m _ _ _ _ _ = _
    unfold c_X9_film_l59_b
    rw [if_neg (ji_len (by omega) (by omega) (by omega)), jgd_t hL.1, hL.2.2.2.1, jgd_t h2'.2.2.1, h2'.2.2.2.1, jgd_t (ji_int (by omega) hs), jgd_t hY.2.2.1.1.1.1, b1, jb_some, ji_n (by omega), p1]
    dsimp only
    rw [jgd_t q2.1, q_slay q2 (by omega), jb_some, hi, show (Int32.ofNat 1 : Int32) = 1 from rfl, jsv1_i, show Int32.ofNat k + 1 = Int32.ofNat (k + 1) from ji_add k 1]
    exact a1
theorem xq_film (hF : 2000 < F) (h : xqQ D w m) {g : Bool} (hg : g = true ↔ jGt D) {H : jHt} (hH : xHm H m) {x1 x2 : Int32} : ∃ m', c_X9_film F m 32 x1 x2 = some ((jflm D H g x1 x2).1, m') ∧ xqF (fun a i => xqO a i ∨ xqS a i) m m' ∧ xqQ D w m' ∧ xHm (jflm D H g x1 x2).2 m' := by
  have hB := h.1
  have hL := hB.2.1.1
  unfold c_X9_film jflm
  rw [xq_isSheet, jb_some, xi_c12]
  cases e1 : jin x1 4 with
  | false => exact ⟨m, rfl, xqF.rfl, h, hH⟩
  | true =>
    obtain ⟨s, rfl, hs2, hs⟩ := jin_nat e1
    rw [if_neg (show ¬ jbi true = 0 by decide), Bool.true_and]
    cases e2 : jbt2 x2 0 12 with
    | false => exact ⟨m, rfl, xqF.rfl, h, hH⟩
    | true =>
      obtain ⟨n, rfl, hn2, -, hn⟩ := jbt2_nat e2
      rw [if_pos (show true = true from rfl), if_pos (show true = true from rfl), jgd_t hL.1, hB.2.2.2.2.1.2.2.2, ji_n hs2, ji_n hn2]
      by_cases hq0 : jDq D = 0
      · rw [if_pos ((jDq_0 hB.1).mpr hq0), if_pos hq0]
        exact ⟨m, rfl, xqF.rfl, h, hH⟩
      rw [if_neg (fun h => hq0 ((jDq_0 hB.1).mp h)), if_neg hq0]
      obtain ⟨m1, a1, a2, a3⟩ := xq_current (F := F) hF h
      have hJ := a3.2.2.1.1.1
      have hgr := xq_great a3 hg
      have hH1 : xHm H m1 := xHm_fx a2 (fun a i q1 q2 z => by unfold xqO at z; omega) hH
      rw [a1, jb_some]
      dsimp only
      rw [jgd_t hJ.1, hgr.1]
      cases hgg : g with
      | true => exact ⟨m1, rfl, a2.weak (fun a i q => Or.inl q), xqC_Q a3, hH1⟩
      | false =>
        have hL1 := a3.1.2.1.1
        have h21 := a3.1.2.1.2.2.1
        obtain ⟨p1, p2⟩ := xq_sh a3.1 hs
        obtain ⟨m2, b1, b2, b3⟩ := xq_become (F := F) (by omega) a3.1 hH1 hs (b := true) (t := 1) (n := n) (x := 1) (y := Int32.ofNat n) rfl rfl (by omega) (fun _ => by omega) (fun q => by cases q)
        have hC2 : xqC D w m2 := xqC_fx b2 (fun a i q => by unfold xqS at q; unfold xqV; omega) a3
        obtain ⟨m3, c1, c2, c3, c4⟩ := xq_film_l59 (F := F) (w := w) hF hg hq0 hgg (H := H) hs (n := n) hn n 0 F m2 (by omega) (by omega) hC2 (xHm_c (fun i _ => (if_neg (Nat.not_lt_zero i)).symm) b3)
        have c1 : c_X9_film_l59 F F m2 32 (Int32.ofNat s) (Int32.ofNat n) 49 (0 : Int32) = _ := c1
        rw [if_pos (show jbi false = 0 from rfl), if_neg (show ¬ (false = true) by decide), jgd_t hL1.1, hL1.2.2.2.1, jgd_t h21.2.2.1, h21.2.2.2.1, jgd_t (ji_int hs2 hs), p1, jgd_t p2.1, b1, jb_some, c1, jb_some]
        exact ⟨m3, rfl, ((a2.weak (fun a i q => Or.inl q)).trans (b2.weak (fun a i q => Or.inr q))).trans c2, xqC_Q c3, c4⟩
/-- whether answers have an attribute -/
theorem xq_isNam {x : Int32} (hD : jDok D) : c_X9_isIn F m (Int32.ofNat (jatn D 4)) x = some (jbi (jnam D x)) := by
  have h64 := jatn_lt hD 4 (by omega)
  unfold jnam
  by_cases hx : x < 0
  · rw [jbt2_neg hx]
    unfold c_X9_isIn
    rw [if_pos hx]
    rfl
  · obtain ⟨k, rfl, hk⟩ := ji_nat hx
    rw [jbt2_n hk, ji_n hk]
    by_cases h32 : k < 32
    · rw [q_isIn h32 (by omega)]
      by_cases h5 : k ≤ 5
      · rw [decide_eq_true (show 0 ≤ k ∧ k ≤ 5 by omega), Bool.true_and]
      · rw [decide_eq_false (by omega), Bool.false_and, Nat.testBit_lt_two_pow (Nat.lt_of_lt_of_le h64 (jp2 (show 6 ≤ k by omega)))]
    · unfold c_X9_isIn
      rw [if_neg hx, if_pos (show (32 : Int32) ≤ Int32.ofNat k from ji_lep (a := 32) (by omega) hk (by omega)), decide_eq_false (by omega), Bool.false_and]
      rfl
theorem xq_lot_l72 (hF : 2000 < F) {g : Bool} (hg : g = true ↔ jGt D) (hq0 : jDq D ≠ 0) (hgf : g = false) {x1 v p : Int32} {n a : Nat} (hn : n ≤ 20) (ha : a < 6) : ∀ (t k f : Nat) (m : jMe), k + t = n → t < f → xqC D w m → ∃ m', c_X9_lot_l72 F f m x1 (Int32.ofNat n) (Int32.ofNat a) v p 49 (Int32.ofNat (jsum k (fun i => jhit D a v (x1 + Int32.ofNat i)))) (Int32.ofNat k) = some (m', Int32.ofNat n, p, Int32.ofNat (jsum n (fun i => jhit D a v (x1 + Int32.ofNat i)))) ∧ xqF xqO m m' ∧ xqC D w m' := by
  intro t
  induction t with
  | zero =>
    intro k f m h1 h2 hY
    obtain ⟨f, rfl⟩ := jsucc h2
    refine ⟨m, ?_, xqF.rfl, hY⟩
    show c_X9_lot_l72_b F _ m _ _ _ _ _ _ _ _ = _
    unfold c_X9_lot_l72_b
    rw [if_pos (ji_lep (by omega) (by omega) (by omega)), show k = n by omega]
  | succ t ih =>
    intro k f m h1 h2 hY
    obtain ⟨f, rfl⟩ := jsucc h2
    obtain ⟨m1, b1, b2, b3, b4, b5⟩ := xq_drawn2 (F := F) hF hY hg hq0 hgf (z := x1 + Int32.ofNat k)
    obtain ⟨m', c1, c2, c3⟩ := ih (k + 1) f m1 (by omega) (by omega) b4
    rw [jsum_s, ← ji_add] at c1
    refine ⟨m', ?_, b3.trans c2, c3⟩
    show c_X9_lot_l72_b F _ m _ _ _ _ _ _ _ _ = _
    unfold c_X9_lot_l72_b
    rw [if_neg (ji_len (by omega) (by omega) (by omega)), jgd_t hY.2.2.1.1.1.1, b1, jb_some, show Int32.ofNat k + 1 = Int32.ofNat (k + 1) from ji_add k 1]
    dsimp only
    have hs : ∀ b : Nat, jhit D a v (x1 + Int32.ofNat k) = b → Int32.ofNat (jhit D a v (x1 + Int32.ofNat k)) = Int32.ofNat b := fun b e => by rw [e]
    cases ho : (jdraw D (x1 + Int32.ofNat k)).1 with
    | none =>
      have e : jhit D a v (x1 + Int32.ofNat k) = 0 := by
        unfold jhit
        rw [ho]
      rw [e, ji_add, Nat.add_zero] at c1
      rw [show jdgo D none = -1 from rfl, if_pos rfl]
      exact c1
    | some R =>
      obtain ⟨r1, r2⟩ := b5 R ho
      rw [show jdgo D (some R) = Int32.ofNat (jdg D R 4 0 0) from rfl, if_neg (ji_ne1 (by omega)), jgd_t b4.2.2.1.1.1.1, q_answerValue ha b4.2.2.1.1 r1, jb_some]
      by_cases e : jav D R a = v
      · have e2 : jhit D a v (x1 + Int32.ofNat k) = 1 := by
          unfold jhit
          rw [ho]
          exact if_pos e
        rw [e2] at c1
        rw [if_pos e]
        exact c1
      · have e2 : jhit D a v (x1 + Int32.ofNat k) = 0 := by
          unfold jhit
          rw [ho]
          exact if_neg e
        rw [e2, ji_add, Nat.add_zero] at c1
        rw [if_neg e]
        exact c1
theorem jhit_le {a : Nat} {v z : Int32} : jhit D a v z ≤ 1 := by
  unfold jhit
  split
  · exact Nat.zero_le _
  · split <;> omega
theorem xq_lot (hF : 2000 < F) (h : xqQ D w m) {g : Bool} (hg : g = true ↔ jGt D) {x1 x2 x3 x4 x5 : Int32} : ∃ m', c_X9_lot F m 32 x1 x2 x3 x4 x5 = some (if jDq D ≠ 0 ∧ g = false then jlotv D x1 x2 x3 x4 x5 else -4611686018427387904, m') ∧ xqF xqO m m' ∧ xqQ D w m' := by
  have hB := h.1
  have hL := hB.2.1.1
  unfold c_X9_lot jlotv
  rw [xi_b20]
  cases e1 : jbt2 x2 1 20 with
  | false =>
    refine ⟨m, ?_, xqF.rfl, h⟩
    rw [Bool.false_and, if_neg (show ¬ (false = true ∧ _) from fun h => by cases h.1), if_neg (show ¬ (false = true) by decide), ite_self]
  | true =>
    obtain ⟨n, rfl, hn2, hn1, hn⟩ := jbt2_nat e1
    rw [if_pos rfl, xq_isPart, jb_some, ji_n hn2, Bool.true_and]
    cases e2 : jbt2 x5 0 1 with
    | false =>
      refine ⟨m, ?_, xqF.rfl, h⟩
      rw [Bool.false_and, if_neg (show ¬ (false = true ∧ _) from fun h => by cases h.1), ite_self]
      rfl
    | true =>
      rw [if_neg (show ¬ jbi true = 0 by decide), jgd_t hL.1, xq_attrs (by omega) hB, jb_some, xq_isNam hB.1, jb_some, Bool.true_and]
      cases e3 : jnam D x3 with
      | false =>
        refine ⟨m, ?_, xqF.rfl, h⟩
        rw [if_neg (show ¬ (false = true ∧ _) from fun h => by cases h.1), ite_self]
        rfl
      | true =>
        have e4 := e3
        unfold jnam at e4
        rw [Bool.and_eq_true] at e4
        obtain ⟨a, rfl, ha2, -, ha⟩ := jbt2_nat e4.1
        obtain ⟨m1, a1, a2, a3, a4⟩ := xq_told (F := F) hF h hg
        have hJ := a3.2.2.1.1.1
        rw [if_neg (show ¬ jbi true = 0 by decide), a1, jb_some, ji_n ha2]
        dsimp only
        rw [jgd_t hJ.1]
        rcases a4 with ⟨e5, e6, e7⟩ | ⟨e5, e7⟩
        · obtain ⟨-, hs, hsm⟩ := (xq_great a3 hg).2 e6
          rw [e7, jb_some, if_neg (show ¬ (1 : Int32) = 0 by decide), jgd_t a3.1.2.1.1.1, xq_cur0 a3, jb_some, if_pos (show jDq D ≠ 0 ∧ g = false from ⟨e5, e6⟩)]
          dsimp only
          rw [jgd_t hJ.1, hs]
          by_cases h0 : jsp D 4 = 0
          · rw [if_pos (jc_eq0.mpr (by rw [h0]; rfl)), if_neg (fun q => q.2 h0)]
            exact ⟨m1, rfl, a2, xqC_Q a3⟩
          · obtain ⟨m2, b1, b2, b3⟩ := xq_lot_l72 (F := F) hF hg e5 e6 (x1 := x1) (v := x4) (p := x5) (n := n) (a := a) (by omega) (by omega) n 0 F m1 (by omega) (by omega) a3
            have b1 : c_X9_lot_l72 F F m1 x1 (Int32.ofNat n) (Int32.ofNat a) x4 x5 49 (0 : Int32) (0 : Int32) = _ := b1
            have hsum := jsum_small (f := fun i => jhit D a x4 (x1 + Int32.ofNat i)) (c := 1) (n := n) (fun i _ => jhit_le)
            have hn0 : Int64.ofNat n ≠ 0 := fun q => by
              have := (jq_eq (a := n) (b := 0) (by unfold jMX; omega) (Nat.zero_le _)).mp q
              omega
            obtain ⟨j, d1, d2⟩ := jeuf_get (Int64.ofNat (jsum n (fun i => jhit D a x4 (x1 + Int32.ofNat i)))) (Int64.ofNat n)
            rw [if_neg (show ¬ lg_cmp (Int64.ofNat (jsp D 4)) (0 : Int64) = 0 from fun q => h0 ((jq_eq (b := 0) hsm (Nat.zero_le _)).mp (jc_eq0.mp q))), jgd_t a3.1.2.1.1.1, xq_cur0 a3, jb_some, if_pos ⟨rfl, h0⟩]
            dsimp only
            rw [b1, jb_some]
            dsimp only
            rw [jt64 (by omega), jt64 (by omega), q_partOf (by omega) hn0 d1 d2, jb_some]
            exact ⟨m2, rfl, a2.trans b2, xqC_Q b3⟩
        · rw [e7, jb_some, if_pos rfl, if_neg e5]
          exact ⟨m1, rfl, a2, xqC_Q a3⟩
end XFILM
