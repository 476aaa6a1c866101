/-! the class between calls: its cells, what it holds -/
/-- frames in which a join's row of relations may be set -/
def xqF (S : Nat → Nat → Prop) (m m' : jMe) : Prop := (jN m' = jN m ∧ jT m' = jT m ∧ jK m' = jK m ∧ jZ m' = jZ m) ∧ (∀ a i, ¬ (i = 12 ∧ (a = 49 ∨ a = 63)) → jP m' a i = jP m a i) ∧ (∀ b, jP m b 12 = 33 → jP m' b 12 = 33) ∧ (∀ a i, ¬ S a i → jI m' a i = jI m a i) ∧ (∀ a i, ¬ S a i → jL m' a i = jL m a i)
theorem xqF.rfl {S : Nat → Nat → Prop} {m : jMe} : xqF S m m := ⟨⟨Eq.refl _, Eq.refl _, Eq.refl _, Eq.refl _⟩, fun _ _ _ => Eq.refl _, fun _ h => h, fun _ _ _ => Eq.refl _, fun _ _ _ => Eq.refl _⟩
theorem xqF.trans {S : Nat → Nat → Prop} {m m' m'' : jMe} (h : xqF S m m') (k : xqF S m' m'') : xqF S m m'' :=
  ⟨⟨k.1.1.trans h.1.1, k.1.2.1.trans h.1.2.1, k.1.2.2.1.trans h.1.2.2.1, k.1.2.2.2.trans h.1.2.2.2⟩, fun a i q => (k.2.1 a i q).trans (h.2.1 a i q), fun b q => k.2.2.1 b (h.2.2.1 b q), fun a i q => (k.2.2.2.1 a i q).trans (h.2.2.2.1 a i q), fun a i q => (k.2.2.2.2 a i q).trans (h.2.2.2.2 a i q)⟩
theorem xqF.weak {S S' : Nat → Nat → Prop} {m m' : jMe} (h : xqF S m m') (k : ∀ a i, S a i → S' a i) : xqF S' m m' :=
  ⟨h.1, h.2.1, h.2.2.1, fun a i q => h.2.2.2.1 a i (fun r => q (k a i r)), fun a i q => h.2.2.2.2 a i (fun r => q (k a i r))⟩
theorem xqF.K {S : Nat → Nat → Prop} {m m' : jMe} (h : xqF S m m') : jK m' = jK m := h.1.2.2.1
theorem xqF.Z {S : Nat → Nat → Prop} {m m' : jMe} (h : xqF S m m') : jZ m' = jZ m := h.1.2.2.2
theorem xqF.P {S : Nat → Nat → Prop} {m m' : jMe} (h : xqF S m m') {a : Nat} (k : ¬ (a = 49 ∨ a = 63)) : jP m' a = jP m a := funext fun i => h.2.1 a i (fun q => k q.2)
theorem xqF.I {S : Nat → Nat → Prop} {m m' : jMe} (h : xqF S m m') {a i : Nat} (k : ¬ S a i) : jI m' a i = jI m a i := h.2.2.2.1 a i k
theorem xqF.L {S : Nat → Nat → Prop} {m m' : jMe} (h : xqF S m m') {a i : Nat} (k : ¬ S a i) : jL m' a i = jL m a i := h.2.2.2.2 a i k
theorem xqF_x {S : Nat → Nat → Prop} {m m' : jMe} (h : jfx S m m') : xqF S m m' := ⟨⟨h.1, h.2.1, h.2.2.1, h.2.2.2.1⟩, fun a i _ => by rw [h.P], fun b q => by rw [h.P]; exact q, h.2.2.2.2.2.1, h.2.2.2.2.2.2⟩
theorem xqF_fr {S : Nat → Nat → Prop} {P : Nat → Prop} {m m' : jMe} (h : jfr P m m') (k : ∀ a i, P a → S a i) : xqF S m m' := xqF_x (jfr_fx h k)
/-- where things lie -/
def xqL1 (m : jMe) : Prop := jK m 32 = 41 ∧ jP m 32 0 = 33 ∧ jP m 32 1 = 34 ∧ jP m 32 2 = 35 ∧ jP m 32 3 = 36 ∧ jP m 32 4 = 39 ∧ jP m 32 5 = 43 ∧ jP m 32 6 = 47 ∧ jP m 32 7 = 48 ∧ jP m 32 8 = 49 ∧ jP m 32 9 = 63
def xqL2 (m : jMe) : Prop := jK m 34 = 6 ∧ jZ m 34 = 6 ∧ jK m 35 = 7 ∧ jZ m 35 = 4 ∧ ∀ s, s < 4 → jP m 35 s = 89 + 2 * s ∧ jLsh m (89 + 2 * s) (90 + 2 * s)
def xqL3 (m : jMe) : Prop := jK m 39 = 33 ∧ jP m 39 4 = 40 ∧ jP m 39 5 = 41 ∧ jP m 39 6 = 42 ∧ jK m 40 = 1 ∧ jZ m 40 = 4 ∧ jK m 41 = 1 ∧ jZ m 41 = 4 ∧ jK m 42 = 1 ∧ jZ m 42 = 32
def xqL4 (m : jMe) : Prop := jK m 43 = 38 ∧ jP m 43 0 = 44 ∧ jP m 43 1 = 45 ∧ jP m 43 2 = 46 ∧ jK m 44 = 32 ∧ jK m 45 = 2 ∧ jZ m 45 = 8 ∧ jK m 46 = 2 ∧ jZ m 46 = 8 ∧ jK m 47 = 1 ∧ jZ m 47 = 12 ∧ jK m 48 = 1 ∧ jZ m 48 = 12
def xqL (m : jMe) : Prop := xqL1 m ∧ (jLR m ∧ jLJ m 49 ∧ jLJ m 63) ∧ xqL2 m ∧ xqL3 m ∧ xqL4 m
theorem xqL_of {m m' : jMe} (hK : jK m' = jK m) (hZ : jZ m' = jZ m) (hP : ∀ a, ¬ (a = 49 ∨ a = 63) → jP m' a = jP m a) (hP2 : ∀ a i, ¬ (i = 12 ∧ (a = 49 ∨ a = 63)) → jP m' a i = jP m a i) (h : xqL m) : xqL m' := by
  obtain ⟨a, ⟨b1, b2, b3⟩, c, d, e⟩ := h
  refine ⟨?_, ⟨jLR_of hK hZ (fun x hx => hP x (by omega)) b1, jLJ_of hK hZ (fun k hk => hP2 49 k (by omega)) (hP 50 (by omega)) b2, jLJ_of hK hZ (fun k hk => hP2 63 k (by omega)) (hP 64 (by omega)) b3⟩, ?_, ?_, ?_⟩
  · unfold xqL1 at a ⊢
    rw [hK, hP 32 (by omega)]
    exact a
  · unfold xqL2 jLsh at c ⊢
    rw [hK, hZ, hP 35 (by omega)]
    refine ⟨c.1, c.2.1, c.2.2.1, c.2.2.2.1, fun s hs => ?_⟩
    rw [hP (89 + 2 * s) (by omega)]
    exact c.2.2.2.2 s hs
  · unfold xqL3 at d ⊢
    rw [hK, hZ, hP 39 (by omega)]
    exact d
  · unfold xqL4 at e ⊢
    rw [hK, hZ, hP 43 (by omega)]
    exact e
/-- texts: cells of the t-th, of its stack, of its steps -/
def xtb (t : Nat) : Nat := if t = 0 then 97 else 126 + 3 * t
def xts (t : Nat) : Nat := if t = 0 then 99 else 127 + 3 * t
def xtc (t : Nat) : Nat := if t = 0 then 100 else 128 + 3 * t
theorem xtb_c (t : Nat) : (xtb t = 97 ∨ (129 ≤ xtb t ∧ xtb t % 3 = 0)) ∧ (xts t = 99 ∨ (129 ≤ xts t ∧ xts t % 3 = 1)) ∧ (xtc t = 100 ∨ (129 ≤ xtc t ∧ xtc t % 3 = 2)) := by
  unfold xtb xts xtc
  by_cases h : t = 0
  · rw [if_pos h, if_pos h, if_pos h]
    omega
  · rw [if_neg h, if_neg h, if_neg h]
    omega
def xqT (D : jD) (w : Nat) (m : jMe) : Prop := ∀ t, t < w → jP m 34 t = xtb t ∧ ∃ n, jTX (jUr D t) (xtb t) (xtc t) (xts t) n m
/-- the class's cells hold D; w texts there are -/
def xqB (D : jD) (w : Nat) (m : jMe) : Prop := jDok D ∧ xqL m ∧ (jLs m ∧ jzT m) ∧ (∀ r, r < 4 → jCr D m r) ∧ (jI m 32 11 = Int32.ofNat (jDn D) ∧ jI m 32 12 = Int32.ofNat w ∧ jI m 32 14 = Int32.ofNat (jDr D) ∧ jI m 32 15 = Int32.ofNat (jDq D)) ∧ (1 ≤ w ∧ w ≤ 6 ∧ jDr D < w) ∧ xqT D w m
/-- places that xqB reads -/
def xqR (a i : Nat) : Prop := a < 32 ∨ (77 ≤ a ∧ a ≤ 88) ∨ (a = 32 ∧ (i = 11 ∨ i = 12 ∨ i = 14 ∨ i = 15)) ∨ a = 100 ∨ (129 ≤ a ∧ a % 3 = 2)
theorem jzT_P {m m' : jMe} (hK : jK m' = jK m) (hZ : jZ m' = jZ m) (hP : jP m' 36 = jP m 36) (hI : ∀ a i, a < 32 → jI m' a i = jI m a i) (h : jzT m) : jzT m' := by
  unfold jzT at h ⊢
  rw [hK, hZ, hP]
  obtain ⟨h1, h2, h3, h4, h5, h6, h7, h8⟩ := h
  refine ⟨h1, h2, h3, h4, h5, h6, h7, fun i hi => ?_⟩
  obtain ⟨g1, g2, g3, g4⟩ := h8 i hi
  refine ⟨g1, g2, g3, fun j hj => ?_⟩
  rw [hI _ _ (by omega)]
  exact g4 j hj
theorem xqB_g {D : jD} {w : Nat} {m m' : jMe} (hK : jK m' = jK m) (hZ : jZ m' = jZ m) (hP : ∀ a, ¬ (a = 49 ∨ a = 63) → jP m' a = jP m a) (hP2 : ∀ a i, ¬ (i = 12 ∧ (a = 49 ∨ a = 63)) → jP m' a i = jP m a i) (hI : ∀ a i, xqR a i → jI m' a i = jI m a i) (k : xqB D w m) : xqB D w m' := by
  obtain ⟨a, b, ⟨c1, c2⟩, d, ⟨e1, e2, e3, e4⟩, f, g⟩ := k
  have hf : ∀ x, x < 32 ∨ (77 ≤ x ∧ x ≤ 88) ∨ x = 100 ∨ (129 ≤ x ∧ x % 3 = 2) → jI m' x = jI m x := fun x hx => funext fun i => hI x i (by unfold xqR; omega)
  refine ⟨a, xqL_of hK hZ hP hP2 b, ⟨?_, jzT_P hK hZ (hP 36 (by omega)) (fun a i h => hI a i (Or.inl h)) c2⟩, fun r hr => jCr_of (hf _ (by unfold jrc; omega)) (hf _ (by unfold jrv; omega)) (hf _ (by unfold jrk; omega)) (d r hr), ⟨by rw [hI _ _ (by unfold xqR; omega)]; exact e1, by rw [hI _ _ (by unfold xqR; omega)]; exact e2, by rw [hI _ _ (by unfold xqR; omega)]; exact e3, by rw [hI _ _ (by unfold xqR; omega)]; exact e4⟩, f, fun t ht => ?_⟩
  · unfold jLs at c1 ⊢
    rw [hK, hZ, hf 1 (by omega)]
    exact c1
  · obtain ⟨g1, n, g2⟩ := g t ht
    have hc := xtb_c t
    refine ⟨by rw [hP 34 (by omega)]; exact g1, n, jTX_of hK hZ (hP _ (by omega)) (hf _ (by omega)) g2⟩
theorem xqB_fx {S : Nat → Nat → Prop} {D : jD} {w : Nat} {m m' : jMe} (h : xqF S m m') (hS : ∀ a i, xqR a i → ¬ S a i) (k : xqB D w m) : xqB D w m' :=
  xqB_g h.K h.Z (fun _ q => h.P q) h.2.1 (fun a i q => h.I (hS a i q)) k
section XCORE
variable {F w : Nat} {D : jD} {m : jMe}
/-- what a join at b reads -/
theorem xqB_In {b : Nat} (h : xqB D w m) (hb : b = 49 ∨ b = 63) (hp : jP m b 12 = 33) : jIn D b m := by
  refine ⟨?_, hp, h.2.1.2.1.1, ⟨h.2.2.1.1, by omega⟩, h.2.2.2.1, h.1.2.2.1⟩
  rcases hb with rfl | rfl
  · exact h.2.1.2.1.2.1
  · exact h.2.1.2.1.2.2
theorem jJ_fx {b : Nat} {m' : jMe} (hI : jIn D b m') (h : ∀ a, b ≤ a → a ≤ b + 13 → jI m' a = jI m a ∧ jL m' a = jL m a) (k : jJ D b m) : jJ D b m' := by
  obtain ⟨-, k2, k3, k4, k5, g, k6, k7, k8⟩ := k
  refine ⟨hI, jTM_of (fun a h1 h2 => (h a (by omega) (by omega)).1) k2, by rw [(h b (by omega) (by omega)).1]; exact k3, fun r hr => by rw [(h (b + 11) (by omega) (by omega)).1]; exact k4 r hr, fun x hx => by rw [(h (b + 7) (by omega) (by omega)).2]; exact k5 x hx, g, by rw [(h b (by omega) (by omega)).1]; exact k6, k7, fun hg => ?_⟩
  obtain ⟨z1, z2, z3, z4⟩ := k8 hg
  exact ⟨fun r hr => jRd_of (h (b + 6) (by omega) (by omega)).2 (h (b + 8) (by omega) (by omega)).2 (z1 r hr), by rw [(h b (by omega) (by omega)).2]; exact z2, z3, z4⟩
theorem jTly_fx {b : Nat} {m' : jMe} (h : ∀ a, b ≤ a → a ≤ b + 13 → jI m' a = jI m a ∧ jL m' a = jL m a) (k : jTly D b m) : jTly D b m' := by
  refine ⟨by rw [(h b (by omega) (by omega)).2]; exact k.1, fun i x hi hx => ?_⟩
  rw [(h (b + 9) (by omega) (by omega)).2]
  exact k.2 i x hi hx
/-- THE QUERY's join is told -/
def xqJ (D : jD) (m : jMe) : Prop := jJ D 49 m ∧ (jI m 49 14 = 0 ∨ (jI m 49 14 = 1 ∧ jTly D 49 m))
theorem xqJ_fx {S : Nat → Nat → Prop} {m' : jMe} (h : xqF S m m') (hS : ∀ a i, 49 ≤ a → a ≤ 62 → ¬ S a i) (hB : xqB D w m') (k : xqJ D m) : xqJ D m' := by
  have hf : ∀ a, 49 ≤ a → a ≤ 49 + 13 → jI m' a = jI m a ∧ jL m' a = jL m a := fun a h1 h2 => ⟨funext fun i => h.I (hS a i h1 (by omega)), funext fun i => h.L (hS a i h1 (by omega))⟩
  refine ⟨jJ_fx (xqB_In hB (Or.inl rfl) (h.2.2.1 49 k.1.1.2.1)) hf k.1, ?_⟩
  rw [(hf 49 (by omega) (by omega)).1]
  rcases k.2 with q | ⟨q, q2⟩
  · exact Or.inl q
  · exact Or.inr ⟨q, jTly_fx hf q2⟩
/-- the class between calls -/
def xqQ (D : jD) (w : Nat) (m : jMe) : Prop := xqB D w m ∧ ∃ st, jI m 32 10 = jbi st ∧ (st = false → xqJ D m)
/-- .. and its query told -/
def xqC (D : jD) (w : Nat) (m : jMe) : Prop := xqB D w m ∧ jI m 32 10 = 0 ∧ xqJ D m
theorem xqC_Q (h : xqC D w m) : xqQ D w m := ⟨h.1, false, h.2.1, fun _ => h.2.2⟩
theorem xqQ_s (h : xqB D w m) (k : jI m 32 10 = 1) : xqQ D w m := ⟨h, true, k, fun q => by cases q⟩
/-- what calls that tell may change -/
def xqO (a i : Nat) : Prop := (43 ≤ a ∧ a ≤ 46) ∨ (49 ≤ a ∧ a ≤ 76) ∨ (a = 32 ∧ i = 10) ∨ a = 99 ∨ (129 ≤ a ∧ a % 3 = 1)
theorem xqO_R {a i : Nat} (h : xqR a i) : ¬ xqO a i := by unfold xqR at h; unfold xqO; omega
/-- a join is told by a text t, for some query -/
theorem xq_tell (hF : 2000 < F) {b t : Nat} (hb : b = 49 ∨ b = 63) (h : xqB D w m) (ht : t < w) {D' : jD} (hD' : jDok D') (hC' : ∀ r, r < 4 → jCr D' m r) (hT : jDt D' (jDr D') = jDt D t) : ∃ m', c_X2_tell F m b 33 (xtb t) (Int32.ofNat (jDq D')) = some m' ∧ xqF (fun a _ => (b ≤ a ∧ a ≤ b + 13) ∨ a = xts t) m m' ∧ jJ D' b m' ∧ jI m' b 14 = 0 := by
  obtain ⟨-, n, hx⟩ := h.2.2.2.2.2.2 t ht
  have hx2 : jTX D' (xtb t) (xtc t) (xts t) n m := by
    obtain ⟨x1, x2, x3, x4⟩ := hx
    exact ⟨x1, x2, x3, fun r k f cp => by rw [x4 r k f cp, hT]; rfl⟩
  have hc := xtb_c t
  have hL : jLJ m b := by
    rcases hb with rfl | rfl
    · exact h.2.1.2.1.2.1
    · exact h.2.1.2.1.2.2
  obtain ⟨m', a1, a2, a3, a4, a5, a6, a7, a8, a9⟩ := q_tell (F := F) (b := b) hF hD' hL h.2.1.2.1.1 h.2.2.1.1 (by omega) hC' hx2 (by omega)
  refine ⟨m', a1, ⟨⟨a2, a3, a4, a5⟩, fun a i q => ?_, fun c q => ?_, fun a i q => ?_, fun a i q => ?_⟩, a8, a9⟩
  · rw [a6]
    exact if_neg (by omega)
  · rw [a6]
    show (if c = b ∧ 12 = 12 then 33 else jP m c 12) = 33
    split
    · rfl
    · exact q
  · rw [(a7 a (by unfold jSt2; exact q)).1]
  · rw [(a7 a (by unfold jSt2; exact q)).2]
theorem xqB_32 (h : xqB D w m) {x : Int32} : xqB D w (jsI m 32 10 x) :=
  xqB_fx (S := fun a i => a = 32 ∧ i = 10) (xqF_x (jfx_I ⟨rfl, rfl⟩)) (fun a i q => by unfold xqR at q; omega) h
theorem xqJ_32 (h : xqB D w m) (k : xqJ D m) {x : Int32} : xqJ D (jsI m 32 10 x) :=
  xqJ_fx (S := fun a i => a = 32 ∧ i = 10) (xqF_x (jfx_I ⟨rfl, rfl⟩)) (fun a i _ _ => by omega) (xqB_32 h) k
theorem xq_text (h : xqB D w m) {t : Nat} (ht : t < w) : jP m 34 t = xtb t := (h.2.2.2.2.2.2 t ht).1
theorem xq_cur0 (h : xqC D w m) : c_X9_current F m 32 = some (49, m) := by
  have hL := h.1.2.1.1
  unfold c_X9_current c_X9_current_j36
  rw [jgd_t hL.1, if_pos h.2.1, jgd_t hL.1, hL.2.2.2.2.2.2.2.2.2.1]
theorem xq_current (hF : 2000 < F) (h : xqQ D w m) : ∃ m', c_X9_current F m 32 = some (49, m') ∧ xqF xqO m m' ∧ xqC D w m' := by
  obtain ⟨hB, st, h1, h2⟩ := h
  cases st with
  | false => exact ⟨m, xq_cur0 ⟨hB, h1, h2 rfl⟩, xqF.rfl, hB, h1, h2 rfl⟩
  | true =>
    have hL := hB.2.1.1
    obtain ⟨b1, b2, b3⟩ := hB.2.2.2.2.2.1
    obtain ⟨e1, e2, e3, e4⟩ := hB.2.2.2.2.1
    obtain ⟨m1, a1, a2, a3, a4⟩ := xq_tell (F := F) hF (b := 49) (Or.inl rfl) hB b3 hB.1 hB.2.2.2.1 rfl
    have hc := xtb_c (jDr D)
    have hB1 : xqB D w m1 := xqB_fx a2 (fun a i q => by unfold xqR at q; omega) hB
    have hm1 : xqC D w (jsI m1 32 10 0) := ⟨xqB_32 hB1, jsI_y, xqJ_32 hB1 ⟨a3, Or.inl a4⟩⟩
    refine ⟨_, ?_, (a2.weak (fun a i q => by unfold xqO; omega)).trans (xqF_x (jfx_I (by unfold xqO; omega))), hm1⟩
    unfold c_X9_current c_X9_current_j36
    rw [jgd_t hL.1, h1, if_neg (show ¬ jbi true = 0 by decide), hL.2.2.1, jgd_t hB.2.1.2.2.1.1, hB.2.1.2.2.1.2.1, e3, jgd_t (ji_int (by omega) (by omega)), hL.2.2.2.2.2.2.2.2.2.1, jgd_t hB.2.1.2.1.2.1.1, hL.2.1, ji_n (by omega), xq_text hB b3, e4, a1, jb_some, jgd_t hB1.2.1.1.1, jgd_t hm1.1.2.1.1.1, hm1.1.2.1.1.2.2.2.2.2.2.2.2.2.1]
/-- behind a draw; behind a tally -/
theorem xqC_dr {m' : jMe} (h : xqC D w m) (hf : jfr (jSdr 49) m m') (hI : ∀ j, j ≠ 7 → j ≠ 16 → j ≠ 17 → jI m' 49 j = jI m 49 j) (hL : jL m' 49 = jL m 49) : xqC D w m' ∧ xqF xqO m m' := by
  have hx : xqF (fun a _ => jSdr 49 a) m m' := xqF_fr hf (fun _ _ q => q)
  refine ⟨⟨xqB_fx hx (fun a i q => by unfold xqR at q; unfold jSdr; omega) h.1, by rw [hx.I (by unfold jSdr; omega)]; exact h.2.1, jJ_of hf (hI 5 (by omega) (by omega) (by omega)) (hI 13 (by omega) (by omega) (by omega)) hL h.2.2.1, ?_⟩, hx.weak (fun a i q => by unfold jSdr at q; unfold xqO; omega)⟩
  rw [hI 14 (by omega) (by omega) (by omega)]
  rcases h.2.2.2 with q | ⟨q, q1, q2⟩
  · exact Or.inl q
  · refine Or.inr ⟨q, by rw [hL]; exact q1, fun i x hi hx2 => ?_⟩
    rw [hx.L (by unfold jSdr; omega)]
    exact q2 i x hi hx2
theorem xqC_ty {m' : jMe} (h : xqC D w m) (hf : jfr (jSty 49) m m') (hJ : jJ D 49 m') (h14 : jI m' 49 14 = 1) (hty : jTly D 49 m') : xqC D w m' ∧ xqF xqO m m' := by
  have hx : xqF (fun a _ => jSty 49 a) m m' := xqF_fr hf (fun _ _ q => q)
  exact ⟨⟨xqB_fx hx (fun a i q => by unfold xqR at q; unfold jSty; omega) h.1, by rw [hx.I (by unfold jSty; omega)]; exact h.2.1, hJ, Or.inr ⟨h14, hty⟩⟩, hx.weak (fun a i q => by unfold jSty at q; unfold xqO; omega)⟩
theorem xq_great (h : xqC D w m) {g : Bool} (hg : g = true ↔ jGt D) : jI m 49 5 = jbi g ∧ (g = false → (∀ r, r ∈ jord D → jRd D 49 m r) ∧ jL m 49 6 = Int64.ofNat (jsp D 4) ∧ jsp D 4 ≤ jMX) := by
  obtain ⟨g', k6, k7, k8⟩ := h.2.2.1.2.2.2.2.2
  have e : g' = g := Bool.eq_iff_iff.mpr (k7.trans hg.symm)
  subst e
  exact ⟨k6, fun q => ⟨(k8 q).1, (k8 q).2.1, (k8 q).2.2.1⟩⟩
theorem xq_isTold (h : xqC D w m) {g : Bool} (hg : g = true ↔ jGt D) : c_X2_isTold F m 49 = some (jbi (!decide (jDq D = 0) && !g)) := q_isTold h.2.2.1 (jDok_q h.1.1) (xq_great h hg).1
/-- .. as one of two -/
theorem xq_told (hF : 2000 < F) (h : xqQ D w m) {g : Bool} (hg : g = true ↔ jGt D) : ∃ m', c_X9_current F m 32 = some (49, m') ∧ xqF xqO m m' ∧ xqC D w m' ∧ ((jDq D ≠ 0 ∧ g = false ∧ c_X2_isTold F m' 49 = some 1) ∨ (¬ (jDq D ≠ 0 ∧ g = false) ∧ c_X2_isTold F m' 49 = some 0)) := by
  obtain ⟨m', a1, a2, a3⟩ := xq_current hF h
  refine ⟨m', a1, a2, a3, ?_⟩
  rw [xq_isTold a3 hg]
  by_cases e : jDq D = 0
  · refine Or.inr ⟨fun q => q.1 e, ?_⟩
    rw [decide_eq_true e]
    rfl
  · rw [decide_eq_false e]
    cases g with
    | true => exact Or.inr ⟨fun q => (by cases q.2), rfl⟩
    | false => exact Or.inl ⟨e, rfl, rfl⟩
end XCORE
