/-! the image: kept, laid back -/
def jbkr (D : jD) (I : jIt) : Int32 × jD := if I.1 = true then (Int32.ofNat I.2.1.1, jBk D I) else (-3, D)
section XIMAGE2
variable {F w : Nat} {D : jD} {m : jMe}
theorem xq_keep_l24 : ∀ (t k f : Nat) (m : jMe), k + t = 4 → t < f → xqL m → (∀ r, r < 4 → jCr D m r) → (∀ r, r < 4 → jDz D r ≤ 8) → (∀ r, r < k → jI m 40 r = Int32.ofNat (jDz D r) ∧ jI m 41 r = Int32.ofNat (jDl D r) ∧ ∀ y, y < jDz D r → jI m 42 (8 * r + y) = Int32.ofNat (jDc D r y)) → ∃ m', c_X1_keep_l24 F f m 39 33 (Int32.ofNat k) = some m' ∧ jfx (fun a _ => 40 ≤ a ∧ a ≤ 42) m m' ∧ ∀ r, r < 4 → jI m' 40 r = Int32.ofNat (jDz D r) ∧ jI m' 41 r = Int32.ofNat (jDl D r) ∧ ∀ y, y < jDz D r → jI m' 42 (8 * r + y) = Int32.ofNat (jDc D r y) := by
  intro t
  induction t with
  | zero =>
    intro k f m h1 h2 hL hC hz hk
    obtain ⟨f, rfl⟩ := jsucc h2
    refine ⟨m, ?_, jfx.rfl, fun r hr => hk r (by omega)⟩
    show c_X1_keep_l24_b F _ m _ _ _ = _
    unfold c_X1_keep_l24_b
    rw [if_pos (show (4 : Int32) ≤ Int32.ofNat k from ji_lep (a := 4) (by omega) (by omega) (by omega))]
  | succ t ih =>
    intro k f m h1 h2 hL hC hz hk
    obtain ⟨f, rfl⟩ := jsucc h2
    have hk4 : k < 4 := by omega
    obtain ⟨c1, c2, c3, c4, c5, c6⟩ := hC k hk4
    have hst : ∀ z, c_X1_keep_l24 F f (jcpI (jsI (jsI m 40 k (jI m (jrc k) 5)) 41 k (jI m (jrc k) 6)) (jrk k) 0 42 (8 * k) 8) 39 33 (Int32.ofNat (k + 1)) = z → c_X1_keep_l24 F (f + 1) m 39 33 (Int32.ofNat k) = z := by
      intro z h
      rw [← h]
      exact xq_keep_b hL hk4
    have hx : jfx (fun a _ => 40 ≤ a ∧ a ≤ 42) m (jcpI (jsI (jsI m 40 k (jI m (jrc k) 5)) 41 k (jI m (jrc k) 6)) (jrk k) 0 42 (8 * k) 8) := ((jfx_I (S := fun a _ => 40 ≤ a ∧ a ≤ 42) (by omega)).trans (jfx_I (S := fun a _ => 40 ≤ a ∧ a ≤ 42) (by omega))).trans (jfx_cp (fun x _ _ => by omega))
    have g : ∀ r, r < k + 1 → jI (jcpI (jsI (jsI m 40 k (jI m (jrc k) 5)) 41 k (jI m (jrc k) 6)) (jrk k) 0 42 (8 * k) 8) 40 r = Int32.ofNat (jDz D r) ∧ jI (jcpI (jsI (jsI m 40 k (jI m (jrc k) 5)) 41 k (jI m (jrc k) 6)) (jrk k) 0 42 (8 * k) 8) 41 r = Int32.ofNat (jDl D r) ∧ ∀ y, y < jDz D r → jI (jcpI (jsI (jsI m 40 k (jI m (jrc k) 5)) 41 k (jI m (jrc k) 6)) (jrk k) 0 42 (8 * k) 8) 42 (8 * r + y) = Int32.ofNat (jDc D r y) := by
      intro r hr
      have hz8 := hz r (by omega)
      by_cases e : r = k
      · subst e
        refine ⟨?_, ?_, fun y hy => ?_⟩
        · rw [jcpI_g, if_neg (by omega), jsI_no (by omega), jsI_y]
          exact c4
        · rw [jcpI_g, if_neg (by omega), jsI_y]
          exact c5
        · rw [jcpI_g, if_pos (by omega), jsI_no (by unfold jrk; omega), jsI_no (by unfold jrk; omega), show 0 + (8 * r + y - 8 * r) = y by omega]
          exact (c6 y hy).2
      · obtain ⟨k1, k2, k3⟩ := hk r (by omega)
        refine ⟨?_, ?_, fun y hy => ?_⟩
        · rw [jcpI_g, if_neg (by omega), jsI_no (by omega), jsI_no (by omega)]
          exact k1
        · rw [jcpI_g, if_neg (by omega), jsI_no (by omega), jsI_no (by omega)]
          exact k2
        · rw [jcpI_g, if_neg (by omega), jsI_no (by omega), jsI_no (by omega)]
          exact k3 y hy
    generalize jcpI (jsI (jsI m 40 k (jI m (jrc k) 5)) 41 k (jI m (jrc k) 6)) (jrk k) 0 42 (8 * k) 8 = m1 at hst hx g
    obtain ⟨m', a1, a2, a3⟩ := ih (k + 1) f m1 (by omega) (by omega) (xqL_of hx.2.2.1 hx.2.2.2.1 (fun a _ => congrFun hx.2.2.2.2.1 a) (fun a i _ => congrFun (congrFun hx.2.2.2.2.1 a) i) hL) (fun r hr => jCr_of (funext fun i => hx.I (by unfold jrc; omega)) (funext fun i => hx.I (by unfold jrv; omega)) (funext fun i => hx.I (by unfold jrk; omega)) (hC r hr)) hz g
    exact ⟨m', hst _ a1, hx.trans a2, a3⟩
theorem xq_image (hF : 10 < F) (h : xqQ D w m) : ∃ m', c_X9_image F m 32 = some (Int32.ofNat (jDn D), m') ∧ xqF (fun a _ => 39 ≤ a ∧ a ≤ 42) m m' ∧ xqQ D w m' ∧ xIm (jImg D) m' := by
  have hB := h.1
  have hL := hB.2.1.1
  have h3 := hB.2.1.2.2.2.1
  have e := hB.2.2.2.2.1
  have s : ∀ (m : jMe) (i : Nat) (v : Int32), jfx (fun a _ => 39 ≤ a ∧ a ≤ 42) m (jsI m 39 i v) := fun m i v => jfx_I (S := fun a _ => 39 ≤ a ∧ a ≤ 42) (by omega)
  generalize hm1 : jsI (jsI (jsI (jsI m 39 0 (1 : Int32)) 39 1 (Int32.ofNat (jDn D))) 39 2 (Int32.ofNat (jDq D))) 39 3 (Int32.ofNat (jDr D)) = m1
  have hx1 : jfx (fun a _ => 39 ≤ a ∧ a ≤ 42) m m1 := by
    rw [← hm1]
    exact (((s _ _ _).trans (s _ _ _)).trans (s _ _ _)).trans (s _ _ _)
  have g0 : jI m1 39 0 = 1 := by rw [← hm1, jsI_no (by omega), jsI_no (by omega), jsI_no (by omega), jsI_y]
  have g1 : jI m1 39 1 = Int32.ofNat (jDn D) := by rw [← hm1, jsI_no (by omega), jsI_no (by omega), jsI_y]
  have g2 : jI m1 39 2 = Int32.ofNat (jDq D) := by rw [← hm1, jsI_no (by omega), jsI_y]
  have g3 : jI m1 39 3 = Int32.ofNat (jDr D) := by rw [← hm1, jsI_y]
  have hB1 : xqB D w m1 := xqB_fx (xqF_x hx1) (fun a i q => by unfold xqR at q; omega) hB
  obtain ⟨m2, a1, a2, a3⟩ := xq_keep_l24 (F := F) (D := D) 4 0 F m1 (by omega) (by omega) hB1.2.1 hB1.2.2.2.1 (fun r hr => (hB1.1.2.2.1 r hr).2.2.1) (fun r hr => absurd hr (Nat.not_lt_zero r))
  have a1 : c_X1_keep_l24 F F m1 39 33 (0 : Int32) = some m2 := a1
  have hx2 : xqF (fun a _ => 39 ≤ a ∧ a ≤ 42) m m2 := xqF_x (hx1.trans (a2.weak (fun a i q => by omega)))
  refine ⟨m2, ?_, hx2, xqQ_fx hx2 (fun a i q => by unfold xqV; omega) h, fun q => (by cases q), fun _ => ⟨by rw [a2.I (by omega)]; exact g0, by rw [a2.I (by omega)]; exact g1, by rw [a2.I (by omega)]; exact g2, by rw [a2.I (by omega)]; exact g3, a3⟩⟩
  unfold c_X9_image c_X1_keep
  rw [jgd_t hL.1, hL.2.2.2.2.2.1, jgd_t h3.1, hL.2.1, e.1, e.2.2.1, e.2.2.2, jgd_t h3.1, hm1, a1, jb_some, jb_some, jgd_t (show jK m2 32 = 41 by rw [hx2.K]; exact hL.1), hx2.I (by omega), e.1]
theorem xq_lay_l2 {I : jIt} (hz : ∀ r, r < 4 → I.2.2.1 r ≤ jDz D r ∧ I.2.2.1 r ≤ 8) : ∀ (t k f : Nat) (m : jMe), k + t = 4 → t < f → xqL m → (∀ r, r < 4 → jI m 40 r = Int32.ofNat (I.2.2.1 r) ∧ jI m 41 r = Int32.ofNat (I.2.2.2.1 r) ∧ ∀ y, y < I.2.2.1 r → jI m 42 (8 * r + y) = Int32.ofNat (I.2.2.2.2 r y)) → (∀ r, r < 4 → if r < k then jCr (jBk D I) m r else jCr D m r) → ∃ m', c_X1_layBack_l2 F f m 39 33 (Int32.ofNat k) = some m' ∧ jfx (fun a _ => 77 ≤ a ∧ a ≤ 88) m m' ∧ ∀ r, r < 4 → jCr (jBk D I) m' r := by
  intro t
  induction t with
  | zero =>
    intro k f m h1 h2 hL hI hC
    obtain ⟨f, rfl⟩ := jsucc h2
    refine ⟨m, ?_, jfx.rfl, fun r hr => ?_⟩
    · show c_X1_layBack_l2_b F _ m _ _ _ = _
      unfold c_X1_layBack_l2_b
      rw [if_pos (show (4 : Int32) ≤ Int32.ofNat k from ji_lep (a := 4) (by omega) (by omega) (by omega))]
    · have := hC r hr
      rw [if_pos (by omega)] at this
      exact this
  | succ t ih =>
    intro k f m h1 h2 hL hI hC
    obtain ⟨f, rfl⟩ := jsucc h2
    have hk4 : k < 4 := by omega
    obtain ⟨i1, i2, i3⟩ := hI k hk4
    obtain ⟨z1, z2⟩ := hz k hk4
    have hCk := hC k hk4
    rw [if_neg (by omega)] at hCk
    obtain ⟨c1, c2, c3, c4, c5, c6⟩ := hCk
    have hst : ∀ z, c_X1_layBack_l2 F f (jcpI (jsI (jsI m (jrc k) 5 (jI m 40 k)) (jrc k) 6 (jI m 41 k)) 42 (8 * k) (jrk k) 0 8) 39 33 (Int32.ofNat (k + 1)) = z → c_X1_layBack_l2 F (f + 1) m 39 33 (Int32.ofNat k) = z := by
      intro z h
      rw [← h]
      exact xq_lay_b hL hk4
    have hx : jfx (fun a i => (a = jrc k ∧ (i = 5 ∨ i = 6)) ∨ a = jrk k) m (jcpI (jsI (jsI m (jrc k) 5 (jI m 40 k)) (jrc k) 6 (jI m 41 k)) 42 (8 * k) (jrk k) 0 8) := ((jfx_I (S := fun a i => (a = jrc k ∧ (i = 5 ∨ i = 6)) ∨ a = jrk k) (Or.inl ⟨rfl, Or.inl rfl⟩)).trans (jfx_I (S := fun a i => (a = jrc k ∧ (i = 5 ∨ i = 6)) ∨ a = jrk k) (Or.inl ⟨rfl, Or.inr rfl⟩))).trans (jfx_cp (fun x _ _ => Or.inr rfl))
    have hnew : jCr (jBk D I) (jcpI (jsI (jsI m (jrc k) 5 (jI m 40 k)) (jrc k) 6 (jI m 41 k)) 42 (8 * k) (jrk k) 0 8) k := by
      refine ⟨by rw [hx.I (by unfold jrc jrk; omega)]; exact c1, by rw [hx.I (by unfold jrc jrk; omega)]; exact c2, fun a ha => by rw [hx.I (by unfold jrc jrk; omega)]; exact c3 a ha, ?_, ?_, fun y hy => ?_⟩
      · rw [jcpI_g, if_neg (by unfold jrc jrk; omega), jsI_no (by omega), jsI_y]
        exact i1
      · rw [jcpI_g, if_neg (by unfold jrc jrk; omega), jsI_y]
        exact i2
      · have hy : y < I.2.2.1 k := hy
        refine ⟨fun a ha => by rw [hx.I (by unfold jrc jrk jrv; omega)]; exact (c6 y (by omega)).1 a ha, ?_⟩
        rw [jcpI_g, if_pos ⟨rfl, by omega⟩, jsI_no (by unfold jrc; omega), jsI_no (by unfold jrc; omega), Nat.sub_zero]
        exact i3 y hy
    generalize jcpI (jsI (jsI m (jrc k) 5 (jI m 40 k)) (jrc k) 6 (jI m 41 k)) 42 (8 * k) (jrk k) 0 8 = m1 at hst hx hnew
    obtain ⟨m', a1, a2, a3⟩ := ih (k + 1) f m1 (by omega) (by omega) (xqL_of hx.2.2.1 hx.2.2.2.1 (fun a _ => congrFun hx.2.2.2.2.1 a) (fun a i _ => congrFun (congrFun hx.2.2.2.2.1 a) i) hL) (fun r hr => ⟨by rw [hx.I (by unfold jrc jrk; omega)]; exact (hI r hr).1, by rw [hx.I (by unfold jrc jrk; omega)]; exact (hI r hr).2.1, fun y hy => by rw [hx.I (by unfold jrc jrk; omega)]; exact (hI r hr).2.2 y hy⟩) (fun r hr => by
      by_cases e : r = k
      · subst e
        rw [if_pos (by omega)]
        exact hnew
      · have h1 : jI m1 (jrc r) = jI m (jrc r) := funext fun i => hx.I (by unfold jrc jrk; omega)
        have h2 : jI m1 (jrv r) = jI m (jrv r) := funext fun i => hx.I (by unfold jrc jrk jrv; omega)
        have h3 : jI m1 (jrk r) = jI m (jrk r) := funext fun i => hx.I (by unfold jrc jrk; omega)
        have := hC r hr
        by_cases e2 : r < k
        · rw [if_pos e2] at this
          rw [if_pos (by omega)]
          exact jCr_of h1 h2 h3 this
        · rw [if_neg e2] at this
          rw [if_neg (by omega)]
          exact jCr_of h1 h2 h3 this)
    exact ⟨m', hst _ a1, (hx.weak (fun a i q => by unfold jrc jrk at q; omega)).trans a2, a3⟩
theorem xq_back (hF : 10 < F) {S : jTS} (h : xqQ D S.1 m) {I : jIt} (hD : I.1 = true → jDS (jBk D I) S) (hv : jIv D S I) (hI : xIm I m) : ∃ m', c_X9_back F m 32 = some ((jbkr D I).1, m') ∧ xqF xqW m m' ∧ xqQ (jbkr D I).2 S.1 m' := by
  have hB := h.1
  have hL := hB.2.1.1
  have h3 := hB.2.1.2.2.2.1
  unfold c_X9_back jbkr
  rw [jgd_t hL.1, hL.2.2.2.2.2.1, jgd_t h3.1]
  by_cases e : I.1 = true
  · obtain ⟨g0, g1, g2, g3, g4⟩ := hI.2 e
    have hD := hD e
    obtain ⟨v1, v2, v3, v4, v5⟩ := hv e
    rw [g0, if_neg (show ¬ (1 : Int32) = 0 by decide), if_pos e]
    obtain ⟨m1, a1, a2, a3⟩ := xq_lay_l2 (F := F) (D := D) (I := I) (fun r hr => ⟨(v5 r hr).1, Nat.le_trans (v5 r hr).1 (hB.1.2.2.1 r hr).2.2.1⟩) 4 0 F m (by omega) (by omega) hB.2.1 g4 (fun r hr => by rw [if_neg (Nat.not_lt_zero r)]; exact hB.2.2.2.1 r hr)
    have a1 : c_X1_layBack_l2 F F m 39 33 (0 : Int32) = some m1 := a1
    have hP1 : jP m1 32 4 = 39 := by rw [a2.P]; exact hL.2.2.2.2.2.1
    unfold c_X1_layBack
    rw [hL.2.1, a1, jb_some, jb_some, jgd_t (show jK m1 32 = 41 by rw [a2.K]; exact hL.1)]
    simp only [jsI_P, jsI_K, hP1]
    have k39 : jK m1 39 = 33 := by rw [a2.K]; exact h3.1
    rw [jgd_t k39, jgd_t k39, jgd_t k39, jsI_no (show ¬ (39 = 32 ∧ 2 = 11) by omega), jsI_no (show ¬ (39 = 32 ∧ 3 = 15) by omega), jsI_no (show ¬ (39 = 32 ∧ 3 = 11) by omega), a2.I (by omega), a2.I (by omega), a2.I (by omega), g1, g2, g3]
    have hx : xqF xqW m (jsI (jsI (jsI (jsI m1 32 11 (Int32.ofNat I.2.1.1)) 32 15 (Int32.ofNat I.2.1.2.2)) 32 14 (Int32.ofNat I.2.1.2.1)) 32 10 (1 : Int32)) := xqF_x (((((a2.weak (fun a i q => Or.inl q)).trans (jfx_I (S := xqW) (by unfold xqW; omega))).trans (jfx_I (S := xqW) (by unfold xqW; omega))).trans (jfx_I (S := xqW) (by unfold xqW; omega))).trans (jfx_I (S := xqW) (by unfold xqW; omega)))
    refine ⟨_, ?_, hx, xqQ_s (xqB_mk hB hx hD.1 (jCr_32 (jCr_32 (jCr_32 (jCr_32 a3)))) ?_ ?_ ?_ v2 (fun _ => rfl)) jsI_y⟩
    · show jgd (jK m1 32 = 41) (some (jI (jsI (jsI (jsI (jsI m1 32 11 (Int32.ofNat I.2.1.1)) 32 15 (Int32.ofNat I.2.1.2.2)) 32 14 (Int32.ofNat I.2.1.2.1)) 32 10 (1 : Int32)) 32 11, _)) = _
      rw [jgd_t (show jK m1 32 = 41 by rw [a2.K]; exact hL.1), jsI_no (by omega), jsI_no (by omega), jsI_no (by omega), jsI_y]
    · rw [jsI_no (by omega), jsI_no (by omega), jsI_no (by omega), jsI_y]
      rfl
    · rw [jsI_no (by omega), jsI_y]
      rfl
    · rw [jsI_no (by omega), jsI_no (by omega), jsI_y]
      rfl
  · rw [hI.1 (Bool.eq_false_iff.mpr e), if_pos rfl, if_neg e]
    exact ⟨m, rfl, xqF.rfl, h⟩
end XIMAGE2
/-! .. as the reference does it -/
def yIm (I : jIt) (m : jMe) : Prop := (I.1 = false → jI m 101 53 = -1) ∧ (I.1 = true → jI m 101 53 = Int32.ofNat I.2.1.1 ∧ jI m 101 54 = Int32.ofNat I.2.1.2.2 ∧ jI m 101 55 = Int32.ofNat I.2.1.2.1 ∧ ∀ r, r < 4 → jI m 124 r = Int32.ofNat (I.2.2.1 r) ∧ ∀ k, k < I.2.2.1 r → jI m 122 (8 * r + k) = Int32.ofNat (I.2.2.2.2 r k) ∧ jI m 123 (8 * r + k) = jbi ((I.2.2.2.1 r).testBit k))
theorem yIm_fx {Q : Nat → Nat → Prop} {I : jIt} {m m' : jMe} (h : jfx Q m m') (hQ : ∀ a i, (122 ≤ a ∧ a ≤ 124) ∨ (a = 101 ∧ 53 ≤ i ∧ i ≤ 55) → ¬ Q a i) (k : yIm I m) : yIm I m' := by
  refine ⟨fun q => by rw [h.I (hQ _ _ (by omega))]; exact k.1 q, fun q => ?_⟩
  obtain ⟨k1, k2, k3, k5⟩ := k.2 q
  refine ⟨by rw [h.I (hQ _ _ (by omega))]; exact k1, by rw [h.I (hQ _ _ (by omega))]; exact k2, by rw [h.I (hQ _ _ (by omega))]; exact k3, fun r hr => ⟨by rw [h.I (hQ _ _ (by omega))]; exact (k5 r hr).1, fun x hx => ⟨by rw [h.I (hQ _ _ (by omega))]; exact ((k5 r hr).2 x hx).1, by rw [h.I (hQ _ _ (by omega))]; exact ((k5 r hr).2 x hx).2⟩⟩⟩
theorem jvn_b {b : Bool} : vp_nar .boolean (jbi b) = jbi b := by
  cases b
  · exact jvn_0
  · exact jvn_1
theorem jwh {α : Type} {f g : Nat → α} {i x : Nat} : (if i + 1 ≤ x then f x else (if x = i then f i else g x)) = if i ≤ x then f x else g x := by
  by_cases e : i + 1 ≤ x
  · rw [if_pos e, if_pos (Nat.le_of_succ_le e)]
  · rw [if_neg e]
    by_cases e2 : x = i
    · subst e2
      rw [if_pos rfl, if_pos (Nat.le_refl _)]
    · rw [if_neg e2, if_neg (by omega)]
section YIMAGE
variable {F : Nat} {D : jD} {S : jTS}
theorem y_image_l2 : ∀ (t i f : Nat) (m : jMe), i + t = 32 → t < f → jLM m → ∃ m', c_X10_image_l2 F f m 101 (Int32.ofNat i) = some (m', 101) ∧ jfx (fun a _ => a = 122 ∨ a = 123) m m' ∧ ∀ x, x < 32 → jI m' 122 x = (if i ≤ x then jI m 109 x else jI m 122 x) ∧ jI m' 123 x = (if i ≤ x then vp_nar .boolean (jI m 110 x) else jI m 123 x) := by
  intro t
  induction t with
  | zero =>
    intro i f m h1 h2 hL
    obtain ⟨f, rfl⟩ := jsucc h2
    refine ⟨m, ?_, jfx.rfl, fun x hx => ⟨by rw [if_neg (by omega)], by rw [if_neg (by omega)]⟩⟩
    show c_X10_image_l2_b F _ m _ _ = _
    unfold c_X10_image_l2_b
    rw [if_pos (show (32 : Int32) ≤ Int32.ofNat i from ji_lep (a := 32) (by omega) (by omega) (by omega))]
  | succ t ih =>
    intro i f m h1 h2 hL
    obtain ⟨f, rfl⟩ := jsucc h2
    have hx : jfx (fun a _ => a = 122 ∨ a = 123) m (jsI (jsI m 122 i (jI m 109 i)) 123 i (vp_nar .boolean (jI m 110 i))) := (jfx_I (S := fun a _ => a = 122 ∨ a = 123) (Or.inl rfl)).trans (jfx_I (S := fun a _ => a = 122 ∨ a = 123) (Or.inr rfl))
    obtain ⟨m', a1, a2, a3⟩ := ih (i + 1) f (jsI (jsI m 122 i (jI m 109 i)) 123 i (vp_nar .boolean (jI m 110 i))) (by omega) (by omega) (jLM_fx hx hL)
    refine ⟨m', ?_, hx.trans a2, fun x hx2 => ?_⟩
    · show c_X10_image_l2_b F _ m _ _ = _
      unfold c_X10_image_l2_b
      rw [if_neg (show ¬ (32 : Int32) ≤ Int32.ofNat i from ji_len (a := 32) (by omega) (by omega) (by omega))]
      simp only [jsI_P, jsI_K, jsI_Z, jp_109 hL, jz_109 hL, jp_122 hL, jz_122 hL, jp_110 hL, jz_110 hL, jp_123 hL, jz_123 hL, jgd_t hL.1, jgd_t (jk_109 hL), jgd_t (jk_122 hL), jgd_t (jk_110 hL), jgd_t (jk_123 hL), ji_n (show i < 2147483648 by omega), ji_int (show i < 2147483648 by omega) (show i < 32 by omega), jgd_T, jsI_no (show ¬ (110 = 122 ∧ i = i) by omega), show Int32.ofNat i + 1 = Int32.ofNat (i + 1) from ji_add i 1]
      exact a1
    · obtain ⟨b1, b2⟩ := a3 x hx2
      have q1 : jI (jsI (jsI m 122 i (jI m 109 i)) 123 i (vp_nar .boolean (jI m 110 i))) 109 x = jI m 109 x := hx.I (by omega)
      have q2 : jI (jsI (jsI m 122 i (jI m 109 i)) 123 i (vp_nar .boolean (jI m 110 i))) 110 x = jI m 110 x := hx.I (by omega)
      have q3 : jI (jsI (jsI m 122 i (jI m 109 i)) 123 i (vp_nar .boolean (jI m 110 i))) 122 x = if x = i then jI m 109 i else jI m 122 x := by
        rw [jsI_no (by omega), jsI_g]
        by_cases e : x = i
        · rw [if_pos ⟨rfl, e⟩, if_pos e]
        · rw [if_neg (fun q => e q.2), if_neg e]
      have q4 : jI (jsI (jsI m 122 i (jI m 109 i)) 123 i (vp_nar .boolean (jI m 110 i))) 123 x = if x = i then vp_nar .boolean (jI m 110 i) else jI m 123 x := by
        rw [jsI_g]
        by_cases e : x = i
        · rw [if_pos ⟨rfl, e⟩, if_pos e]
        · rw [if_neg (fun q => e q.2), if_neg e, jsI_no (by omega)]
      rw [b1, b2, q1, q2, q3, q4]
      exact ⟨jwh (f := fun x => jI m 109 x) (g := fun x => jI m 122 x), jwh (f := fun x => vp_nar .boolean (jI m 110 x)) (g := fun x => jI m 123 x)⟩
theorem y_image_l40 : ∀ (t i f : Nat) (m : jMe), i + t = 4 → t < f → jLM m → ∃ m', c_X10_image_l40 F f m 101 (Int32.ofNat i) = some (m', 101) ∧ jfx (fun a _ => a = 124) m m' ∧ ∀ x, x < 4 → jI m' 124 x = if i ≤ x then jI m 107 x else jI m 124 x := by
  intro t
  induction t with
  | zero =>
    intro i f m h1 h2 hL
    obtain ⟨f, rfl⟩ := jsucc h2
    refine ⟨m, ?_, jfx.rfl, fun x hx => by rw [if_neg (by omega)]⟩
    show c_X10_image_l40_b F _ m _ _ = _
    unfold c_X10_image_l40_b
    rw [if_pos (show (4 : Int32) ≤ Int32.ofNat i from ji_lep (a := 4) (by omega) (by omega) (by omega))]
  | succ t ih =>
    intro i f m h1 h2 hL
    obtain ⟨f, rfl⟩ := jsucc h2
    have hx : jfx (fun a _ => a = 124) m (jsI m 124 i (jI m 107 i)) := jfx_I (S := fun a _ => a = 124) rfl
    obtain ⟨m', a1, a2, a3⟩ := ih (i + 1) f (jsI m 124 i (jI m 107 i)) (by omega) (by omega) (jLM_fx hx hL)
    refine ⟨m', ?_, hx.trans a2, fun x hx2 => ?_⟩
    · show c_X10_image_l40_b F _ m _ _ = _
      unfold c_X10_image_l40_b
      rw [if_neg (show ¬ (4 : Int32) ≤ Int32.ofNat i from ji_len (a := 4) (by omega) (by omega) (by omega)), jgd_t hL.1, jp_107 hL, jgd_t (jk_107 hL), jz_107 hL, jgd_t (ji_int (by omega) (by omega)), jp_124 hL, jgd_t (jk_124 hL), jz_124 hL, jgd_t (ji_int (by omega) (by omega)), ji_n (by omega), show Int32.ofNat i + 1 = Int32.ofNat (i + 1) from ji_add i 1]
      exact a1
    · have q1 : jI (jsI m 124 i (jI m 107 i)) 107 x = jI m 107 x := hx.I (by omega)
      have q2 : jI (jsI m 124 i (jI m 107 i)) 124 x = if x = i then jI m 107 i else jI m 124 x := by
        rw [jsI_g]
        by_cases e : x = i
        · rw [if_pos ⟨rfl, e⟩, if_pos e]
        · rw [if_neg (fun q => e q.2), if_neg e]
      rw [a3 x hx2, q1, q2]
      exact jwh (f := fun x => jI m 107 x) (g := fun x => jI m 124 x)
def jyIc (a i : Nat) : Prop := (122 ≤ a ∧ a ≤ 124) ∨ (a = 101 ∧ 53 ≤ i ∧ i ≤ 55)
theorem y_image (hF : 100 < F) (hDS : jDS D S) {m : jMe} (hQ : jyQ D S m) : ∃ m', c_X10_image F m 101 = some (Int32.ofNat (jDn D), m') ∧ jfx jyIc m m' ∧ jyQ D S m' ∧ yIm (jImg D) m' := by
  have hL := hQ.1.1
  obtain ⟨c1, c2, c3, c4⟩ := hQ.1.2.1
  obtain ⟨m1, a1, a2, a3⟩ := y_image_l2 (F := F) 32 0 F m (by omega) (by omega) hL
  have a1 : c_X10_image_l2 F F m 101 (0 : Int32) = some (m1, 101) := a1
  have hL1 := jLM_fx a2 hL
  obtain ⟨m2, b1, b2, b3⟩ := y_image_l40 (F := F) 4 0 F m1 (by omega) (by omega) hL1
  have b1 : c_X10_image_l40 F F m1 101 (0 : Int32) = some (m2, 101) := b1
  have hL2 := jLM_fx b2 hL1
  have hx2 : jfx jyIc m m2 := (a2.weak (fun a i q => by unfold jyIc; omega)).trans (b2.weak (fun a i q => by unfold jyIc; omega))
  have g10 : jI m2 101 10 = Int32.ofNat (jDn D) := by rw [hx2.I (by unfold jyIc; omega)]; exact c1
  have g4 : jI m2 101 4 = Int32.ofNat (jDr D) := by rw [hx2.I (by unfold jyIc; omega)]; exact c2
  have g14 : jI m2 101 14 = Int32.ofNat (jDq D) := by rw [hx2.I (by unfold jyIc; omega)]; exact c3
  have hx3 : jfx jyIc m (jsI (jsI (jsI m2 101 53 (Int32.ofNat (jDn D))) 101 54 (Int32.ofNat (jDq D))) 101 55 (Int32.ofNat (jDr D))) := ((hx2.trans (jfx_I (S := jyIc) (by unfold jyIc; omega))).trans (jfx_I (S := jyIc) (by unfold jyIc; omega))).trans (jfx_I (S := jyIc) (by unfold jyIc; omega))
  have hx5 : jfx (fun a i => a = 101 ∧ 53 ≤ i ∧ i ≤ 55) m2 (jsI (jsI (jsI m2 101 53 (Int32.ofNat (jDn D))) 101 54 (Int32.ofNat (jDq D))) 101 55 (Int32.ofNat (jDr D))) := ((jfx_I (S := fun a i => a = 101 ∧ 53 ≤ i ∧ i ≤ 55) (by omega)).trans (jfx_I (S := fun a i => a = 101 ∧ 53 ≤ i ∧ i ≤ 55) (by omega))).trans (jfx_I (S := fun a i => a = 101 ∧ 53 ≤ i ∧ i ≤ 55) (by omega))
  refine ⟨_, ?_, hx3, jyQ_fx hx3 (by unfold jyIc; omega) (jRf_fx hx3 (fun a i q => by unfold jSr at q; unfold jyIc; omega) hQ.1) hQ, fun q => (by cases q), fun _ => ⟨?_, ?_, jsI_y, fun r hr => ⟨?_, fun k hk => ?_⟩⟩⟩
  · unfold c_X10_image
    rw [a1, jb_some]
    dsimp only
    rw [b1, jb_some]
    dsimp only
    rw [jgd_t hL2.1, g10, jsI_no (show ¬ (101 = 101 ∧ 14 = 53) by omega), g14, jsI_no (show ¬ (101 = 101 ∧ 4 = 54) by omega), jsI_no (show ¬ (101 = 101 ∧ 4 = 53) by omega), g4]
    show jgd (jK m2 101 = 42) (some (jI (jsI (jsI (jsI m2 101 53 (Int32.ofNat (jDn D))) 101 54 (Int32.ofNat (jDq D))) 101 55 (Int32.ofNat (jDr D))) 101 10, _)) = _
    rw [jgd_t hL2.1, hx5.I (by omega), g10]
  · rw [jsI_no (by omega), jsI_no (by omega), jsI_y]
    rfl
  · rw [jsI_no (by omega), jsI_y]
    rfl
  · rw [hx5.I (by omega), b3 r hr, if_pos (Nat.zero_le _), a2.I (by omega)]
    exact (c4 r hr).2.2.1
  · have hk : k < jDz D r := hk
    have hz := (hDS.1.2.2.1 r hr).2.2.1
    obtain ⟨a4, a5⟩ := a3 (8 * r + k) (by omega)
    obtain ⟨d1, d2, d3⟩ := (c4 r hr).2.2.2 k hk
    rw [hx5.I (by omega), hx5.I (by omega), b2.I (by omega), b2.I (by omega), a4, a5, if_pos (Nat.zero_le _), if_pos (Nat.zero_le _), d2, d3, jvn_b]
    exact ⟨rfl, rfl⟩
theorem y_back_l13 : ∀ (t i f : Nat) (m : jMe), i + t = 32 → t < f → jLM m → ∃ m', c_X10_back_l13 F f m 101 (Int32.ofNat i) = some (m', 101) ∧ jfx (fun a _ => a = 109 ∨ a = 110) m m' ∧ ∀ x, x < 32 → jI m' 109 x = (if i ≤ x then jI m 122 x else jI m 109 x) ∧ jI m' 110 x = (if i ≤ x then vp_nar .boolean (jI m 123 x) else jI m 110 x) := by
  intro t
  induction t with
  | zero =>
    intro i f m h1 h2 hL
    obtain ⟨f, rfl⟩ := jsucc h2
    refine ⟨m, ?_, jfx.rfl, fun x hx => ⟨by rw [if_neg (by omega)], by rw [if_neg (by omega)]⟩⟩
    show c_X10_back_l13_b F _ m _ _ = _
    unfold c_X10_back_l13_b
    rw [if_pos (show (32 : Int32) ≤ Int32.ofNat i from ji_lep (a := 32) (by omega) (by omega) (by omega))]
  | succ t ih =>
    intro i f m h1 h2 hL
    obtain ⟨f, rfl⟩ := jsucc h2
    have hx : jfx (fun a _ => a = 109 ∨ a = 110) m (jsI (jsI m 109 i (jI m 122 i)) 110 i (vp_nar .boolean (jI m 123 i))) := (jfx_I (S := fun a _ => a = 109 ∨ a = 110) (Or.inl rfl)).trans (jfx_I (S := fun a _ => a = 109 ∨ a = 110) (Or.inr rfl))
    obtain ⟨m', a1, a2, a3⟩ := ih (i + 1) f (jsI (jsI m 109 i (jI m 122 i)) 110 i (vp_nar .boolean (jI m 123 i))) (by omega) (by omega) (jLM_fx hx hL)
    refine ⟨m', ?_, hx.trans a2, fun x hx2 => ?_⟩
    · show c_X10_back_l13_b F _ m _ _ = _
      unfold c_X10_back_l13_b
      rw [if_neg (show ¬ (32 : Int32) ≤ Int32.ofNat i from ji_len (a := 32) (by omega) (by omega) (by omega))]
      simp only [jsI_P, jsI_K, jsI_Z, jp_109 hL, jz_109 hL, jp_122 hL, jz_122 hL, jp_110 hL, jz_110 hL, jp_123 hL, jz_123 hL, jgd_t hL.1, jgd_t (jk_109 hL), jgd_t (jk_122 hL), jgd_t (jk_110 hL), jgd_t (jk_123 hL), ji_n (show i < 2147483648 by omega), ji_int (show i < 2147483648 by omega) (show i < 32 by omega), jgd_T, jsI_no (show ¬ (123 = 109 ∧ i = i) by omega), show Int32.ofNat i + 1 = Int32.ofNat (i + 1) from ji_add i 1]
      exact a1
    · obtain ⟨b1, b2⟩ := a3 x hx2
      have q1 : jI (jsI (jsI m 109 i (jI m 122 i)) 110 i (vp_nar .boolean (jI m 123 i))) 122 x = jI m 122 x := hx.I (by omega)
      have q2 : jI (jsI (jsI m 109 i (jI m 122 i)) 110 i (vp_nar .boolean (jI m 123 i))) 123 x = jI m 123 x := hx.I (by omega)
      have q3 : jI (jsI (jsI m 109 i (jI m 122 i)) 110 i (vp_nar .boolean (jI m 123 i))) 109 x = if x = i then jI m 122 i else jI m 109 x := by
        rw [jsI_no (by omega), jsI_g]
        by_cases e : x = i
        · rw [if_pos ⟨rfl, e⟩, if_pos e]
        · rw [if_neg (fun q => e q.2), if_neg e]
      have q4 : jI (jsI (jsI m 109 i (jI m 122 i)) 110 i (vp_nar .boolean (jI m 123 i))) 110 x = if x = i then vp_nar .boolean (jI m 123 i) else jI m 110 x := by
        rw [jsI_g]
        by_cases e : x = i
        · rw [if_pos ⟨rfl, e⟩, if_pos e]
        · rw [if_neg (fun q => e q.2), if_neg e, jsI_no (by omega)]
      rw [b1, b2, q1, q2, q3, q4]
      exact ⟨jwh (f := fun x => jI m 122 x) (g := fun x => jI m 109 x), jwh (f := fun x => vp_nar .boolean (jI m 123 x)) (g := fun x => jI m 110 x)⟩
theorem y_back_l59 {n0 : Nat} (hn : n0 ≤ 4) {z0 : Nat → Nat} (hz : ∀ r, n0 ≤ r → z0 r = 0) : ∀ (t i f : Nat) (m : jMe), i + t = 4 → t < f → jLM m → jI m 101 10 = Int32.ofNat n0 → (∀ r, r < 4 → jI m 124 r = Int32.ofNat (z0 r)) → (∀ r, r < i → jI m 107 r = Int32.ofNat (z0 r)) → ∃ m', c_X10_back_l59 F f m 101 (Int32.ofNat i) = some (m', 101) ∧ jfx (fun a _ => a = 107) m m' ∧ ∀ r, r < 4 → jI m' 107 r = Int32.ofNat (z0 r) := by
  intro t
  induction t with
  | zero =>
    intro i f m h1 h2 hL h10 h124 h107
    obtain ⟨f, rfl⟩ := jsucc h2
    refine ⟨m, ?_, jfx.rfl, fun x hx => h107 x (by omega)⟩
    show c_X10_back_l59_b F _ m _ _ = _
    unfold c_X10_back_l59_b
    rw [if_pos (show (4 : Int32) ≤ Int32.ofNat i from ji_lep (a := 4) (by omega) (by omega) (by omega))]
  | succ t ih =>
    intro i f m h1 h2 hL h10 h124 h107
    obtain ⟨f, rfl⟩ := jsucc h2
    have hx : jfx (fun a _ => a = 107) m (jsI m 107 i (Int32.ofNat (z0 i))) := jfx_I (S := fun a _ => a = 107) rfl
    obtain ⟨m', a1, a2, a3⟩ := ih (i + 1) f (jsI m 107 i (Int32.ofNat (z0 i))) (by omega) (by omega) (jLM_fx hx hL) (by rw [hx.I (by omega)]; exact h10) (fun r hr => by rw [hx.I (by omega)]; exact h124 r hr) (fun r hr => by
      rw [jsI_g]
      by_cases e : r = i
      · rw [if_pos ⟨rfl, e⟩, e]
      · rw [if_neg (fun q => e q.2)]
        exact h107 r (by omega))
    refine ⟨m', ?_, hx.trans a2, a3⟩
    show c_X10_back_l59_b F _ m _ _ = _
    unfold c_X10_back_l59_b c_X10_back_j87_l59
    rw [if_neg (show ¬ (4 : Int32) ≤ Int32.ofNat i from ji_len (a := 4) (by omega) (by omega) (by omega)), jgd_t hL.1, h10, jp_107 hL, jgd_t (jk_107 hL), jz_107 hL, jgd_t (ji_int (by omega) (by omega)), jp_124 hL, jgd_t (jk_124 hL), jz_124 hL, jgd_t (ji_int (by omega) (by omega)), ji_n (show i < 2147483648 by omega), show Int32.ofNat i + 1 = Int32.ofNat (i + 1) from ji_add i 1, h124 i (by omega)]
    by_cases e : n0 ≤ i
    · rw [if_pos (ji_lep (by omega) (by omega) e)]
      rw [hz i e] at a1
      exact a1
    · rw [if_neg (ji_len (by omega) (by omega) e), jgd_t (jk_107 hL), jgd_t (ji_int (by omega) (by omega))]
      exact a1
/-- what back may change -/
def jyBc (a i : Nat) : Prop := a = 107 ∨ a = 109 ∨ a = 110 ∨ (a = 101 ∧ (i = 4 ∨ i = 10 ∨ i = 14))
theorem y_back (hF : 100 < F) (hDS : jDS D S) {m : jMe} (hQ : jyQ D S m) {I : jIt} (hv : jIv D S I) (hI : yIm I m) : ∃ m', c_X10_back F m 101 = some ((jbkr D I).1, m') ∧ jfx jyBc m m' ∧ jyQ (jbkr D I).2 S m' := by
  have hL := hQ.1.1
  unfold c_X10_back jbkr
  rw [jgd_t hL.1]
  by_cases e : I.1 = true
  · obtain ⟨g1, g2, g3, g4⟩ := hI.2 e
    have hD := jIv_ok hDS hv e
    obtain ⟨v1, v2, v3, v4, v5⟩ := hv e
    have hn4 := hDS.1.1
    obtain ⟨m1, a1, a2, a3⟩ := y_back_l13 (F := F) 32 0 F m (by omega) (by omega) hL
    have a1 : c_X10_back_l13 F F m 101 (0 : Int32) = some (m1, 101) := a1
    have hL1 := jLM_fx a2 hL
    have hx2 : jfx jyBc m (jsI m1 101 10 (Int32.ofNat I.2.1.1)) := (a2.weak (fun a i q => by unfold jyBc; omega)).trans (jfx_I (by unfold jyBc; omega))
    have hx2b : jfx (fun a i => a = 101 ∧ i = 10) m1 (jsI m1 101 10 (Int32.ofNat I.2.1.1)) := jfx_I ⟨rfl, rfl⟩
    have h10 : jI (jsI m1 101 10 (Int32.ofNat I.2.1.1)) 101 10 = Int32.ofNat I.2.1.1 := jsI_y
    obtain ⟨m2, b1, b2, b3⟩ := y_back_l59 (F := F) (n0 := I.2.1.1) (z0 := I.2.2.1) (Nat.le_trans v1 hn4) (fun r hr => (v4 r hr).1) 4 0 F (jsI m1 101 10 (Int32.ofNat I.2.1.1)) (by omega) (by omega) (jLM_fx hx2b hL1) h10 (fun r hr => by rw [hx2.I (by unfold jyBc; omega)]; exact (g4 r hr).1) (fun r hr => absurd hr (Nat.not_lt_zero r))
    have b1 : c_X10_back_l59 F F (jsI m1 101 10 (Int32.ofNat I.2.1.1)) 101 (0 : Int32) = some (m2, 101) := b1
    have hx3 : jfx jyBc m m2 := hx2.trans (b2.weak (fun a i q => Or.inl q))
    have hL2 := jLM_fx hx3 hL
    have hx4 : jfx (fun a i => a = 101 ∧ (i = 4 ∨ i = 14)) m2 (jsI (jsI m2 101 14 (Int32.ofNat I.2.1.2.2)) 101 4 (Int32.ofNat I.2.1.2.1)) := (jfx_I (S := fun a i => a = 101 ∧ (i = 4 ∨ i = 14)) ⟨rfl, Or.inr rfl⟩).trans (jfx_I (S := fun a i => a = 101 ∧ (i = 4 ∨ i = 14)) ⟨rfl, Or.inl rfl⟩)
    have hx : jfx jyBc m (jsI (jsI m2 101 14 (Int32.ofNat I.2.1.2.2)) 101 4 (Int32.ofNat I.2.1.2.1)) := hx3.trans (hx4.weak (fun a i q => by unfold jyBc; omega))
    have h53 : jI m 101 53 ≠ -1 := by rw [g1]; exact ji_ne1 (by omega)
    rw [if_neg h53, if_pos e]
    have hR : jRf (jBk D I) S (jsI (jsI m2 101 14 (Int32.ofNat I.2.1.2.2)) 101 4 (Int32.ofNat I.2.1.2.1)) := by
      obtain ⟨k1, ⟨c1, c2, c3, c4⟩, k3, k4⟩ := hQ.1
      refine ⟨jLM_fx hx k1, ⟨?_, jsI_y, ?_, fun r hr => ?_⟩, ?_, ?_⟩
      · rw [hx4.I (by omega), b2.I (by omega)]
        exact h10
      · rw [jsI_no (by omega), jsI_y]
        rfl
      · obtain ⟨d1, d2, d3, d4⟩ := c4 r hr
        obtain ⟨z1, z2, z3⟩ := v5 r hr
        have hz8 := (hDS.1.2.2.1 r hr).2.2.1
        refine ⟨by rw [hx.I (by unfold jyBc; omega)]; exact d1, by rw [hx.I (by unfold jyBc; omega)]; exact d2, by rw [hx4.I (by omega)]; exact b3 r hr, fun k hk => ?_⟩
        have hk : k < I.2.2.1 r := hk
        obtain ⟨e1, e2, e3⟩ := d4 k (Nat.lt_of_lt_of_le hk z1)
        obtain ⟨f1, f2⟩ := (g4 r hr).2 k hk
        obtain ⟨a4, a5⟩ := a3 (8 * r + k) (by omega)
        refine ⟨fun a ha => by rw [hx.I (by unfold jyBc; omega)]; exact e1 a ha, ?_, ?_⟩
        · rw [hx4.I (by omega), b2.I (by omega), hx2b.I (by omega), a4, if_pos (Nat.zero_le _)]
          exact f1
        · rw [hx4.I (by omega), b2.I (by omega), hx2b.I (by omega), a5, if_pos (Nat.zero_le _), f2, jvn_b]
          rfl
      · obtain ⟨t1, t2, x, y, t3, t4, t5, t6⟩ := k3
        exact ⟨by rw [hx.I (by unfold jyBc; omega)]; exact t1, fun t ht => ⟨by rw [hx.I (by unfold jyBc; omega)]; exact (t2 t ht).1, fun i hi => by rw [hx.I (by unfold jyBc; omega)]; exact (t2 t ht).2 i hi⟩, x, y, t3, t4, by rw [hx.I (by unfold jyBc; omega)]; exact t5, by rw [hx.I (by unfold jyBc; omega)]; exact t6⟩
      · intro p hp
        have h4p := k4 p hp
        rw [hx.L (by unfold jyBc; omega), hx.I (by unfold jyBc; omega)]
        exact h4p
    refine ⟨_, ?_, hx, jyQ_101 hQ hR (hx.I (by unfold jyBc; omega)) (hx.I (by unfold jyBc; omega)) (hx.I (by unfold jyBc; omega))⟩
    rw [a1, jb_some]
    dsimp only
    rw [jgd_t hL1.1, a2.I (by omega), g1, b1, jb_some]
    dsimp only
    rw [jgd_t hL2.1, hx3.I (by unfold jyBc; omega), g2, jsI_no (show ¬ (101 = 101 ∧ 55 = 14) by omega), hx3.I (by unfold jyBc; omega), g3, hx4.I (by omega), b2.I (by omega), h10]
  · rw [hI.1 (Bool.eq_false_iff.mpr e), if_pos rfl, if_neg e]
    exact ⟨m, rfl, jfx.rfl, hQ⟩
end YIMAGE
