/-! bytes, texts, as the reference takes them -/
section YTEXT
variable {F : Nat} {D : jD} {S : jTS}
/-- bytes that are fed -/
def jyTp (B : Nat × (Nat → Nat)) (m : jMe) : Prop := jI m 101 6 = Int32.ofNat B.1 ∧ B.1 ≤ 160 ∧ ∀ i, i < B.1 → jI m 104 i = Int32.ofNat (B.2 i) ∧ B.2 i < 256
def jfed (B : Nat × (Nat → Nat)) (x1 : Int32) : Int32 × (Nat × (Nat → Nat)) := if jbt2 x1 0 255 = true then (if B.1 = 160 then (-4, B) else (Int32.ofNat (B.1 + 1), (B.1 + 1, fun i => if i = B.1 then x1.toNatClampNeg else B.2 i))) else (-2, B)
theorem y_feed {B : Nat × (Nat → Nat)} {m : jMe} (hQ : jyQ D S m) (hT : jyTp B m) {x1 : Int32} : ∃ m', c_X10_feed F m 101 x1 = some ((jfed B x1).1, m') ∧ jfx (fun a i => a = 104 ∨ (a = 101 ∧ i = 6)) m m' ∧ jyQ D S m' ∧ jyTp (jfed B x1).2 m' := by
  have hL := hQ.1.1
  obtain ⟨t1, t2, t3⟩ := hT
  unfold c_X10_feed jfed
  rw [show c_X10_in F m (Int32.toInt64 x1) (0 : Int64) (255 : Int64) = some (jbi (jbt2 x1 0 255)) from q_in_int (lo := 0) (hi := 255) (by omega) (by omega), jb_some]
  cases e1 : jbt2 x1 0 255 with
  | false => exact ⟨m, rfl, jfx.rfl, hQ, t1, t2, t3⟩
  | true =>
    obtain ⟨v, rfl, hv, _, hv5⟩ := jbt2_nat e1
    rw [if_neg (show ¬ jbi true = 0 by decide), if_pos (show true = true from rfl), jgd_t hL.1, t1, ji_n hv]
    by_cases e : B.1 = 160
    · rw [if_pos (show Int32.ofNat B.1 = 160 by rw [e]; rfl), if_pos e]
      exact ⟨m, rfl, jfx.rfl, hQ, t1, t2, t3⟩
    · rw [if_neg (show ¬ Int32.ofNat B.1 = 160 from ji_eqn (b := 160) (by omega) (by omega) e), if_neg e, jp_104 hL, jgd_t (jk_104 hL), jz_104 hL, jgd_t (ji_int (by omega) (by omega)), ji_n (by omega)]
      have fx1 : jfx (fun a i => a = 104 ∨ (a = 101 ∧ i = 6)) m (jsI m 104 B.1 (Int32.ofNat v)) := jfx_I (Or.inl rfl)
      have v1 : jI (jsI m 104 B.1 (Int32.ofNat v)) 104 B.1 = Int32.ofNat v := jsI_y
      have o1 : ∀ i, i ≠ B.1 → jI (jsI m 104 B.1 (Int32.ofNat v)) 104 i = jI m 104 i := fun i h => jsI_no (by omega)
      have n1 : jI (jsI m 104 B.1 (Int32.ofNat v)) 101 6 = Int32.ofNat B.1 := by rw [jsI_no (by omega)]; exact t1
      generalize jsI m 104 B.1 (Int32.ofNat v) = m1 at fx1 v1 o1 n1 ⊢
      rw [n1, show Int32.ofNat B.1 + 1 = Int32.ofNat (B.1 + 1) from ji_add _ 1]
      have fx2 : jfx (fun a i => a = 104 ∨ (a = 101 ∧ i = 6)) m1 (jsI m1 101 6 (Int32.ofNat (B.1 + 1))) := jfx_I (Or.inr ⟨rfl, rfl⟩)
      have v2 : jI (jsI m1 101 6 (Int32.ofNat (B.1 + 1))) 101 6 = Int32.ofNat (B.1 + 1) := jsI_y
      have o2 : ∀ i, jI (jsI m1 101 6 (Int32.ofNat (B.1 + 1))) 104 i = jI m1 104 i := fun i => jsI_no (by omega)
      generalize jsI m1 101 6 (Int32.ofNat (B.1 + 1)) = m2 at fx2 v2 o2 ⊢
      have fa := fx1.trans fx2
      rw [v2]
      refine ⟨m2, rfl, fa, jyQ_fx fa (by omega) (jRf_fx fa (fun a i h => by unfold jSr at h; omega) hQ.1) hQ, v2, by show B.1 + 1 ≤ 160; omega, fun i hi => ?_⟩
      have hi : i < B.1 + 1 := hi
      show jI m2 104 i = Int32.ofNat (if i = B.1 then v else B.2 i) ∧ (if i = B.1 then v else B.2 i) < 256
      rw [o2]
      by_cases ei : i = B.1
      · rw [if_pos ei, ei, v1]
        exact ⟨rfl, by omega⟩
      · rw [if_neg ei, o1 i ei]
        exact t3 i (by omega)
theorem y_text_l14 {B : Nat × (Nat → Nat)} {s : Nat} (hs : s < 6) : ∀ (t i f : Nat) (m : jMe), i + t = B.1 → t < f → jLM m → jyTp B m → jI m 101 3 = Int32.ofNat s → ∃ m', c_X10_text_l14 F f m 101 (Int32.ofNat i) = some (m', 101) ∧ jfx (fun a j => a = 102 ∧ 160 * s ≤ j ∧ j < 160 * s + 160) m m' ∧ ∀ j, j < B.1 → jI m' 102 (160 * s + j) = if i ≤ j then Int32.ofNat (B.2 j) else jI m 102 (160 * s + j) := by
  intro t
  induction t with
  | zero =>
    intro i f m h1 h2 hL hT h3
    obtain ⟨f, rfl⟩ := jsucc h2
    obtain ⟨t1, t2, t3⟩ := hT
    refine ⟨m, ?_, jfx.rfl, fun j hj => by rw [if_neg (by omega)]⟩
    show c_X10_text_l14_b F _ m _ _ = _
    unfold c_X10_text_l14_b
    rw [jgd_t hL.1, t1, if_pos (ji_lep (by omega) (by omega) (by omega))]
  | succ t ih =>
    intro i f m h1 h2 hL hT h3
    obtain ⟨f, rfl⟩ := jsucc h2
    have hT0 := hT
    obtain ⟨t1, t2, t3⟩ := hT
    show ∃ m', c_X10_text_l14_b F _ m _ _ = _ ∧ _
    unfold c_X10_text_l14_b
    rw [jgd_t hL.1, t1, if_neg (ji_len (by omega) (by omega) (by omega)), jp_104 hL, jgd_t (jk_104 hL), jz_104 hL, jgd_t (ji_int (by omega) (by omega)), jp_102 hL, jgd_t (jk_102 hL), jz_102 hL, h3, show (160 : Int32) = Int32.ofNat 160 from rfl, ji_mul, ji_add, jgd_t (ji_int (by omega) (by omega)), ji_n (by omega), ji_n (by omega), (t3 i (by omega)).1, show Int32.ofNat i + 1 = Int32.ofNat (i + 1) from ji_add i 1]
    have fx1 : jfx (fun a j => a = 102 ∧ 160 * s ≤ j ∧ j < 160 * s + 160) m (jsI m 102 (160 * s + i) (Int32.ofNat (B.2 i))) := jfx_I ⟨rfl, by omega, by omega⟩
    have v1 : jI (jsI m 102 (160 * s + i) (Int32.ofNat (B.2 i))) 102 (160 * s + i) = Int32.ofNat (B.2 i) := jsI_y
    have o1 : ∀ j, j ≠ i → jI (jsI m 102 (160 * s + i) (Int32.ofNat (B.2 i))) 102 (160 * s + j) = jI m 102 (160 * s + j) := fun j h => jsI_no (by omega)
    generalize jsI m 102 (160 * s + i) (Int32.ofNat (B.2 i)) = m1 at fx1 v1 o1 ⊢
    obtain ⟨m', a1, a2, a3⟩ := ih (i + 1) f m1 (by omega) (by omega) (jLM_fx fx1 hL) ⟨by rw [fx1.I (by omega)]; exact t1, t2, fun j hj => by rw [fx1.I (by omega)]; exact t3 j hj⟩ (by rw [fx1.I (by omega)]; exact h3)
    refine ⟨m', a1, fx1.trans a2, fun j hj => ?_⟩
    rw [a3 j hj]
    by_cases e : j = i
    · rw [if_neg (by omega), if_pos (by omega), e, v1]
    · rw [o1 j e]
      by_cases e2 : i ≤ j
      · rw [if_pos (by omega), if_pos e2]
      · rw [if_neg (by omega), if_neg e2]
/-- one more text -/
def jSn (S : jTS) (B : Nat × (Nat → Nat)) : jTS := (S.1 + 1, (fun t => if t = S.1 then B.2 else S.2.1 t), fun t => if t = S.1 then B.1 else S.2.2 t)
def jUt (D : jD) (s : Nat) (l : List Int32) : jD := (D.1, D.2.1, D.2.2.1, D.2.2.2.1, D.2.2.2.2.1, D.2.2.2.2.2.1, D.2.2.2.2.2.2.1, fun t => if t = s then jtell l else jDt D t)
theorem jTc_old {B : Nat × (Nat → Nat)} {t : Nat} (h : t < S.1) : jTc (jSn S B) t = jTc S t := by
  unfold jTc jSn
  dsimp only
  rw [if_neg (by omega), if_neg (by omega)]
theorem jTc_new {B : Nat × (Nat → Nat)} {l : List Int32} (h : jzrd B.2 B.1 = .inr l) : jTc (jSn S B) S.1 = l := by
  unfold jTc jSn
  dsimp only
  rw [if_pos rfl, if_pos rfl, h]
def jtxt (D : jD) (S : jTS) (B : Nat × (Nat → Nat)) : Int32 × jD × jTS × Nat := if S.1 = 6 then (-4, D, S, B.1) else match jzrd B.2 B.1 with
  | .inl p => ((-100 : Int32) - Int32.ofNat p, D, S, 0)
  | .inr l => (Int32.ofNat S.1, jUt D S.1 l, jSn S B, 0)
theorem y_text (hF : 1000 < F) (hDS : jDS D S) {B : Nat × (Nat → Nat)} {m : jMe} (hQ : jyQ D S m) (hT : jyTp B m) : ∃ m', c_X10_text F m 101 = some ((jtxt D S B).1, m') ∧ jfx (fun a i => a = 102 ∨ a = 103 ∨ (a = 101 ∧ (i = 3 ∨ i = 6 ∨ (17 ≤ i ∧ i ≤ 25)))) m m' ∧ jyQ (jtxt D S B).2.1 (jtxt D S B).2.2.1 m' ∧ jDS (jtxt D S B).2.1 (jtxt D S B).2.2.1 ∧ jyTp ((jtxt D S B).2.2.2, B.2) m' := by
  have hD := hDS.1
  have hL := hQ.1.1
  have hS := hDS.2.1
  obtain ⟨hS1, hS6, hSt⟩ := hS
  have hT0 := hT
  obtain ⟨t1, t2, t3⟩ := hT
  have h3 : jI m 101 3 = Int32.ofNat S.1 := hQ.1.2.2.1.1
  unfold c_X10_text jtxt
  rw [jgd_t hL.1, h3]
  by_cases e6 : S.1 = 6
  · rw [if_pos (show Int32.ofNat S.1 = 6 by rw [e6]; rfl), if_pos e6]
    exact ⟨m, rfl, jfx.rfl, hQ, hDS, hT0⟩
  have hs : S.1 < 6 := by omega
  rw [if_neg (show ¬ Int32.ofNat S.1 = 6 from ji_eqn (b := 6) (by omega) (by omega) e6), if_neg e6]
  obtain ⟨m1, a1, a2, a3⟩ := y_text_l14 (F := F) (B := B) hs B.1 0 F m (by omega) (by omega) hL hT0 h3
  have a1 : c_X10_text_l14 F F m 101 (0 : Int32) = _ := a1
  have hL1 := jLM_fx a2 hL
  have f1 : jfx (fun a i => a = 102 ∨ a = 103 ∨ (a = 101 ∧ (i = 3 ∨ i = 6 ∨ (17 ≤ i ∧ i ≤ 25)))) m m1 := a2.weak (fun a i h => by omega)
  rw [a1, jb_some]
  dsimp only
  have n3 : jI m1 101 3 = Int32.ofNat S.1 := by rw [a2.I (by omega)]; exact h3
  have n6 : jI m1 101 6 = Int32.ofNat B.1 := by rw [a2.I (by omega)]; exact t1
  rw [jgd_t hL1.1, jp_103 hL1, jgd_t (jk_103 hL1), jz_103 hL1, n3, jgd_t (ji_int (by omega) hs), ji_n (by omega), n6]
  have fx2 : jfx (fun a i => a = 103 ∧ i = S.1 ∨ (a = 101 ∧ i = 6)) m1 (jsI (jsI m1 103 S.1 (Int32.ofNat B.1)) 101 6 (0 : Int32)) := (jfx_I (Or.inl ⟨rfl, rfl⟩)).trans (jfx_I (Or.inr ⟨rfl, rfl⟩))
  have v6 : jI (jsI (jsI m1 103 S.1 (Int32.ofNat B.1)) 101 6 (0 : Int32)) 101 6 = 0 := jsI_y
  have v103 : jI (jsI (jsI m1 103 S.1 (Int32.ofNat B.1)) 101 6 (0 : Int32)) 103 S.1 = Int32.ofNat B.1 := by rw [jsI_no (by omega), jsI_y]
  generalize jsI (jsI m1 103 S.1 (Int32.ofNat B.1)) 101 6 (0 : Int32) = m2 at fx2 v6 v103 ⊢
  have hL2 := jLM_fx fx2 hL1
  have n32 : jI m2 101 3 = Int32.ofNat S.1 := by rw [fx2.I (by omega)]; exact n3
  have hb2 : ∀ i, i < B.1 → jI m2 102 (160 * S.1 + i) = Int32.ofNat (B.2 i) ∧ B.2 i < 256 := fun i hi => by
    rw [fx2.I (by omega), a3 i hi, if_pos (by omega)]
    exact ⟨rfl, (t3 i hi).2⟩
  have f2 := f1.trans (fx2.weak (S' := fun a i => a = 102 ∨ a = 103 ∨ (a = 101 ∧ (i = 3 ∨ i = 6 ∨ (17 ≤ i ∧ i ≤ 25)))) (fun a i h => by omega))
  -- D still stands
  have hR2 : jRf D S m2 := by
    obtain ⟨h1, ⟨c1, c2, c3, c4⟩, h3', h4⟩ := hQ.1
    have fI : ∀ a i, ¬ ((a = 102 ∧ 160 * S.1 ≤ i ∧ i < 160 * S.1 + 160) ∨ (a = 103 ∧ i = S.1) ∨ (a = 101 ∧ i = 6)) → jI m2 a i = jI m a i := fun a i h => by
      rw [fx2.I (by omega), a2.I (by omega)]
    have fL : ∀ a i, ¬ (a = 102 ∨ a = 103 ∨ a = 101) → jL m2 a i = jL m a i := fun a i h => by
      rw [fx2.L (by omega), a2.L (by omega)]
    refine ⟨hL2, ⟨by rw [fI _ _ (by omega)]; exact c1, by rw [fI _ _ (by omega)]; exact c2, by rw [fI _ _ (by omega)]; exact c3, fun x hx => ?_⟩, ?_, fun p hp => ?_⟩
    · obtain ⟨d1, d2, d3, d4⟩ := c4 x hx
      refine ⟨by rw [fI _ _ (by omega)]; exact d1, by rw [fI _ _ (by omega)]; exact d2, by rw [fI _ _ (by omega)]; exact d3, fun y hy => ?_⟩
      obtain ⟨e1, e2, e3⟩ := d4 y hy
      exact ⟨fun b hb => by rw [fI _ _ (by omega)]; exact e1 b hb, by rw [fI _ _ (by omega)]; exact e2, by rw [fI _ _ (by omega)]; exact e3⟩
    · obtain ⟨g1, g2, x, y, g3, g4, g5, g6⟩ := h3'
      refine ⟨n32, fun t ht => ⟨by rw [fI _ _ (by omega)]; exact (g2 t ht).1, fun i hi => ?_⟩, x, y, g3, g4, by rw [fI _ _ (by omega)]; exact g5, by rw [fI _ _ (by omega)]; exact g6⟩
      have := (hSt t ht).1
      rw [fI _ _ (by omega)]
      exact (g2 t ht).2 i hi
    · have h4p := h4 p hp
      rw [fL _ _ (by omega), fI _ _ (by omega)]
      exact h4p
  have hQ2 : jyQ D S m2 := jyQ_101 hQ hR2 (f2.I (by omega)) (f2.I (by omega)) (f2.I (by omega))
  obtain ⟨r, k, hr, hk, h15, h16⟩ := hR2.2.2.1.2.2
  obtain ⟨v, m3, b1, b2, b3⟩ := y_read (F := F) hF hL2 hs v103 t2 hb2 (r := r) (k := k) (f := fun a => jI m2 108 (48 * r + 6 * k + a)) (cp := jI m2 109 (8 * r + k)) ⟨hr, hk, h15, h16, fun a _ => rfl, rfl⟩
  have hL3 := jLM_fx b2 hL2
  have f3 := f2.trans (b2.weak (S' := fun a i => a = 102 ∨ a = 103 ∨ (a = 101 ∧ (i = 3 ∨ i = 6 ∨ (17 ≤ i ∧ i ≤ 25)))) (fun a i h => by omega))
  have hR3 : jRf D S m3 := jRf_fx b2 (fun a i h => by unfold jSr at h; omega) hR2
  have hQ3 : jyQ D S m3 := jyQ_fx b2 (by omega) hR3 hQ2
  have hT3 : jyTp (0, B.2) m3 := ⟨by rw [b2.I (by omega)]; exact v6, Nat.zero_le _, fun i hi => absurd hi (Nat.not_lt_zero i)⟩
  rw [n32, b1, jb_some]
  dsimp only
  rw [jgd_t hL3.1]
  cases hz : jzrd B.2 B.1 with
  | inl p =>
    rw [hz] at b3
    obtain ⟨g1, g2, g3⟩ := b3
    rw [g1, if_neg (show ¬ (1 : Int32) = 0 by decide), g2]
    exact ⟨m3, rfl, f3, hQ3, hDS, hT3⟩
  | inr l =>
    rw [hz] at b3
    have n33 : jI m3 101 3 = Int32.ofNat S.1 := by rw [b2.I (by omega)]; exact n32
    rw [b3.1, if_pos (show (0 : Int32) = 0 from rfl), n33, show Int32.ofNat S.1 + 1 = Int32.ofNat (S.1 + 1) from ji_add _ 1]
    have fx4 : jfx (fun a i => a = 101 ∧ i = 3) m3 (jsI m3 101 3 (Int32.ofNat (S.1 + 1))) := jfx_I ⟨rfl, rfl⟩
    have v4 : jI (jsI m3 101 3 (Int32.ofNat (S.1 + 1))) 101 3 = Int32.ofNat (S.1 + 1) := jsI_y
    generalize jsI m3 101 3 (Int32.ofNat (S.1 + 1)) = m4 at fx4 v4 ⊢
    have f4 := f3.trans (fx4.weak (S' := fun a i => a = 102 ∨ a = 103 ∨ (a = 101 ∧ (i = 3 ∨ i = 6 ∨ (17 ≤ i ∧ i ≤ 25)))) (fun a i h => by omega))
    have hR4 : jRf (jUt D S.1 l) (jSn S B) m4 := by
      obtain ⟨h1, hC, h3', h4⟩ := hR3
      have hC4 : jCm D m4 := jCm_fx fx4 (fun a i h => by unfold jSm at h; omega) hC
      refine ⟨jLM_fx fx4 h1, hC4, ?_, fun p hp => ?_⟩
      · obtain ⟨g1, g2, x, y, g3, g4, g5, g6⟩ := h3'
        refine ⟨v4, fun t ht => ?_, x, y, g3, g4, by rw [fx4.I (by omega)]; exact g5, by rw [fx4.I (by omega)]; exact g6⟩
        have ht : t < S.1 + 1 := ht
        show jI m4 103 t = Int32.ofNat (if t = S.1 then B.1 else S.2.2 t) ∧ ∀ i, i < (if t = S.1 then B.1 else S.2.2 t) → jI m4 102 (160 * t + i) = Int32.ofNat ((if t = S.1 then B.2 else S.2.1 t) i)
        by_cases et : t = S.1
        · rw [if_pos et, if_pos et, et, fx4.I (by omega), b2.I (by omega)]
          exact ⟨v103, fun i hi => by rw [fx4.I (by omega), b2.I (by omega)]; exact (hb2 i hi).1⟩
        · rw [if_neg et, if_neg et, fx4.I (by omega)]
          exact ⟨(g2 t (by omega)).1, fun i hi => by rw [fx4.I (by omega)]; exact (g2 t (by omega)).2 i hi⟩
      · have h4p := h4 p hp
        rw [fx4.L (by omega), fx4.I (by omega)]
        rcases h4p with h4p | ⟨t, x, y, w, cp, q1, q2, q3, q4, q5, q6, q7⟩
        · exact Or.inl h4p
        · refine Or.inr ⟨t, x, y, w, cp, by show t < S.1 + 1; omega, q2, q3, q4, q5, q6, ?_⟩
          rw [jTc_old q1]
          exact q7
    have hT4 : jyTp (0, B.2) m4 := ⟨by rw [fx4.I (by omega)]; exact hT3.1, Nat.zero_le _, fun i hi => absurd hi (Nat.not_lt_zero i)⟩
    rw [v4, show Int32.ofNat (S.1 + 1) - 1 = Int32.ofNat S.1 from by rw [show (1 : Int32) = Int32.ofNat 1 from rfl, ji_sub (by omega)]; rfl]
    have hQ4 : jyQ (jUt D S.1 l) (jSn S B) m4 := by
      obtain ⟨_, ⟨x, h2, h3⟩, h4, h5⟩ := hQ3
      exact ⟨hR4, ⟨x, h2, by rw [fx4.I (by omega)]; exact h3⟩, by rw [fx4.I (by omega)]; exact h4, by rw [fx4.I (by omega)]; exact h5⟩
    refine ⟨m4, rfl, f4, hQ4, ⟨hD, ⟨by show 1 ≤ S.1 + 1; omega, by show S.1 + 1 ≤ 6; omega, fun t ht => ?_⟩, ?_, fun t ht x y w cp => ?_⟩, hT4⟩
    · have ht : t < S.1 + 1 := ht
      show (if t = S.1 then B.1 else S.2.2 t) ≤ 160 ∧ (∀ i, i < (if t = S.1 then B.1 else S.2.2 t) → (if t = S.1 then B.2 else S.2.1 t) i < 256) ∧ ∃ l, jzrd (if t = S.1 then B.2 else S.2.1 t) (if t = S.1 then B.1 else S.2.2 t) = .inr l
      by_cases et : t = S.1
      · rw [if_pos et, if_pos et]
        exact ⟨t2, fun i hi => (t3 i hi).2, l, hz⟩
      · rw [if_neg et, if_neg et]
        exact hSt t (by omega)
    · show jDr D < S.1 + 1
      have := hDS.2.2.1
      omega
    · have ht : t < S.1 + 1 := ht
      show (if t = S.1 then jtell l else jDt D t) x y w cp = _
      by_cases et : t = S.1
      · rw [if_pos et, et, jTc_new hz]
      · rw [if_neg et, jTc_old (by omega)]
        exact hDS.2.2.2 t (by omega) x y w cp
end YTEXT
