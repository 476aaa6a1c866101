/-! bytes, texts, as the class takes them -/
section XTEXT
variable {F w : Nat} {D : jD} {m : jMe}
/-- places that calls for bytes, sheets, slates, images may change -/
def xqV (a i : Nat) : Prop := (33 ≤ a ∧ a ≤ 48) ∨ (63 ≤ a ∧ a ≤ 76) ∨ (89 ≤ a ∧ a ≤ 99) ∨ (101 ≤ a ∧ a ≤ 128) ∨ (a = 32 ∧ i = 13) ∨ (129 ≤ a ∧ a % 3 = 1)
theorem xqQ_fx {S : Nat → Nat → Prop} {m' : jMe} (h : xqF S m m') (hS : ∀ a i, S a i → xqV a i) (k : xqQ D w m) : xqQ D w m' := by
  obtain ⟨hB, st, h1, h2⟩ := k
  have hB' : xqB D w m' := xqB_fx h (fun a i q z => by have := hS a i z; unfold xqR at q; unfold xqV at this; omega) hB
  refine ⟨hB', st, by rw [h.I (fun z => by have := hS _ _ z; unfold xqV at this; omega)]; exact h1, fun e => ?_⟩
  exact xqJ_fx h (fun a i q1 q2 z => by have := hS a i z; unfold xqV at this; omega) hB' (h2 e)
theorem xqC_fx {S : Nat → Nat → Prop} {m' : jMe} (h : xqF S m m') (hS : ∀ a i, S a i → xqV a i) (k : xqC D w m) : xqC D w m' := by
  obtain ⟨hB, h1, h2⟩ := k
  have hB' : xqB D w m' := xqB_fx h (fun a i q z => by have := hS a i z; unfold xqR at q; unfold xqV at this; omega) hB
  exact ⟨hB', by rw [h.I (fun z => by have := hS _ _ z; unfold xqV at this; omega)]; exact h1, xqJ_fx h (fun a i q1 q2 z => by have := hS a i z; unfold xqV at this; omega) hB' h2⟩
/-- bytes that are fed -/
def xTp (B : Nat × (Nat → Nat)) (m : jMe) : Prop := jI m 36 2 = Int32.ofNat B.1 ∧ B.1 ≤ 160 ∧ ∀ i, i < B.1 → jI m 37 i = Int32.ofNat (B.2 i) ∧ B.2 i < 256
theorem xq_feed {B : Nat × (Nat → Nat)} (h : xqQ D w m) (hT : xTp B m) {x1 : Int32} : ∃ m', c_X9_feed F m 32 x1 = some ((jfed B x1).1, m') ∧ xqF (fun a i => a = 37 ∨ (a = 36 ∧ i = 2)) m m' ∧ xTp (jfed B x1).2 m' := by
  have hL := h.1.2.1.1
  have hZ := h.1.2.2.1.2
  obtain ⟨t1, t2, t3⟩ := hT
  unfold c_X9_feed jfed
  rw [xi_c255]
  cases e1 : jbt2 x1 0 255 with
  | false => exact ⟨m, rfl, xqF.rfl, t1, t2, t3⟩
  | true =>
    obtain ⟨v, rfl, hv, -, hv5⟩ := jbt2_nat e1
    rw [if_pos (show true = true from rfl), if_pos (show true = true from rfl), jgd_t hL.1, hL.2.2.2.2.1, jgd_t hZ.1, ji_n hv]
    unfold c_X3_take
    rw [jgd_t hZ.1, t1]
    by_cases e : B.1 = 160
    · rw [if_neg (show ¬ Int32.ofNat B.1 < (160 : Int32) from ji_ltn (b := 160) (by omega) (by omega) (by omega)), if_pos e, jb_some]
      exact ⟨m, rfl, xqF.rfl, t1, t2, t3⟩
    · rw [if_pos (show Int32.ofNat B.1 < (160 : Int32) from ji_ltp (b := 160) (by omega) (by omega) (by omega)), if_neg e, hZ.2.1, jgd_t hZ.2.2.2.1, hZ.2.2.2.2.1, jgd_t (ji_int (by omega) (by omega)), ji_n (by omega), jvn_c, ji2c_n (by omega)]
      have fx1 : xqF (fun a i => a = 37 ∨ (a = 36 ∧ i = 2)) m (jsI m 37 B.1 (Int32.ofNat v)) := xqF_x (jfx_I (Or.inl rfl))
      have v1 : jI (jsI m 37 B.1 (Int32.ofNat v)) 37 B.1 = Int32.ofNat v := jsI_y
      have o1 : ∀ i, i ≠ B.1 → jI (jsI m 37 B.1 (Int32.ofNat v)) 37 i = jI m 37 i := fun i h => jsI_no (by omega)
      have n1 : jI (jsI m 37 B.1 (Int32.ofNat v)) 36 2 = Int32.ofNat B.1 := by rw [jsI_no (by omega)]; exact t1
      generalize jsI m 37 B.1 (Int32.ofNat v) = m1 at fx1 v1 o1 n1 ⊢
      rw [n1, show Int32.ofNat B.1 + 1 = Int32.ofNat (B.1 + 1) from ji_add _ 1, jb_some]
      dsimp only
      have fx2 : xqF (fun a i => a = 37 ∨ (a = 36 ∧ i = 2)) m1 (jsI m1 36 2 (Int32.ofNat (B.1 + 1))) := xqF_x (jfx_I (Or.inr ⟨rfl, rfl⟩))
      have v2 : jI (jsI m1 36 2 (Int32.ofNat (B.1 + 1))) 36 2 = Int32.ofNat (B.1 + 1) := jsI_y
      have o2 : ∀ i, jI (jsI m1 36 2 (Int32.ofNat (B.1 + 1))) 37 i = jI m1 37 i := fun i => jsI_no (by omega)
      generalize jsI m1 36 2 (Int32.ofNat (B.1 + 1)) = m2 at fx2 v2 o2 ⊢
      have fa := fx1.trans fx2
      rw [if_neg (show ¬ (1 : Int32) = 0 by decide), jgd_t (show jK m2 32 = 41 by rw [fa.K]; exact hL.1), fa.P (a := 32) (by omega), hL.2.2.2.2.1, jgd_t (show jK m2 36 = 35 by rw [fa.K]; exact hZ.1), v2]
      refine ⟨m2, rfl, fa, v2, by show B.1 + 1 ≤ 160; omega, fun i hi => ?_⟩
      have hi : i < B.1 + 1 := hi
      show jI m2 37 i = Int32.ofNat (if i = B.1 then v else B.2 i) ∧ (if i = B.1 then v else B.2 i) < 256
      rw [o2]
      by_cases ei : i = B.1
      · rw [if_pos ei, ei, v1]
        exact ⟨rfl, by omega⟩
      · rw [if_neg ei, o1 i ei]
        exact t3 i (by omega)
/-! new cells -/
/-- cells ahead of c stay -/
def xqG (c : Nat) (m m' : jMe) : Prop := ∀ a, a < c → jK m' a = jK m a ∧ jZ m' a = jZ m a ∧ jI m' a = jI m a ∧ jL m' a = jL m a ∧ jP m' a = jP m a
theorem xqG.rfl {c : Nat} {m : jMe} : xqG c m m := fun _ _ => ⟨Eq.refl _, Eq.refl _, Eq.refl _, Eq.refl _, Eq.refl _⟩
theorem xqG.trans {c : Nat} {m m' m'' : jMe} (h : xqG c m m') (k : xqG c m' m'') : xqG c m m'' := fun a q => ⟨(k a q).1.trans (h a q).1, (k a q).2.1.trans (h a q).2.1, (k a q).2.2.1.trans (h a q).2.2.1, (k a q).2.2.2.1.trans (h a q).2.2.2.1, (k a q).2.2.2.2.trans (h a q).2.2.2.2⟩
theorem xqG.weak {c c' : Nat} {m m' : jMe} (h : xqG c m m') (hc : c' ≤ c) : xqG c' m m' := fun a q => h a (by omega)
theorem xqG_new {m : jMe} {k z n : Nat} : xqG (32 + jN m) m (jnew m k z n) := fun a q => ⟨jat_ne _ _ (by omega), jat_ne _ _ (by omega), jat_ne _ _ (by omega), jat_ne _ _ (by omega), jat_ne _ _ (by omega)⟩
theorem xqG_P {m : jMe} {c a i x : Nat} (h : c ≤ a) : xqG c m (jsP m a i x) := fun b q => ⟨Eq.refl _, Eq.refl _, Eq.refl _, Eq.refl _, jup_ne _ _ _ (by omega)⟩
theorem xqG_I {m : jMe} {c a i : Nat} {x : Int32} (h : c ≤ a) : xqG c m (jsI m a i x) := fun b q => ⟨Eq.refl _, Eq.refl _, jup_ne _ _ _ (by omega), Eq.refl _, Eq.refl _⟩
theorem xnew_K {m : jMe} {k z n : Nat} : jK (jnew m k z n) (32 + jN m) = k := jat_self _ _ _
theorem xnew_Z {m : jMe} {k z n : Nat} : jZ (jnew m k z n) (32 + jN m) = z := jat_self _ _ _
theorem xnew_N {m : jMe} {k z n : Nat} : jN (jnew m k z n) = jN m + 1 := Eq.trans (Eq.refl _) (Eq.refl _)
theorem xnew_T {m : jMe} {k z n : Nat} : jT (jnew m k z n) = jT m + n := Eq.trans (Eq.refl _) (Eq.refl _)
theorem q_copyOf {s z n : Nat} (hs : s < 32 + jN m) (hK : jK m s = 1) (hZ : jZ m s = z) (hn : n ≤ z) (hz : z ≤ 160) : ∃ m', c_J7_copyOf_59c91 F m s (Int32.ofNat n) = some (32 + jN m, m') ∧ jN m' = jN m + 1 ∧ jT m' = jT m + n ∧ xqG (32 + jN m) m m' ∧ jK m' (32 + jN m) = 1 ∧ jZ m' (32 + jN m) = n ∧ ∀ i, i < n → jI m' (32 + jN m) i = jI m s i := by
  unfold c_J7_copyOf_59c91
  rw [jgd_t hK, hZ]
  by_cases e : n = z
  · subst e
    rw [if_pos rfl]
    refine ⟨_, rfl, rfl, ?_, fun a q => ⟨jat_ne _ _ (by omega), jat_ne _ _ (by omega), jat_ne _ _ (by omega), jat_ne _ _ (by omega), jat_ne _ _ (by omega)⟩, ?_, ?_, fun i hi => ?_⟩
    · show jT m + jZ m s = jT m + n
      rw [hZ]
    · show jat (jK m) (32 + jN m) (jK m s) (32 + jN m) = 1
      rw [jat_self, hK]
    · show jat (jZ m) (32 + jN m) (jZ m s) (32 + jN m) = n
      rw [jat_self, hZ]
    · show jat (jI m) (32 + jN m) (jI m s) (32 + jN m) i = _
      rw [jat_self]
  · rw [if_neg (ji_eqn (by omega) (by omega) e), jgd_t ⟨ji_ge0 (by omega), by rw [ji_n (by omega)]; omega⟩, ji_n (by omega), jlet_m]
    have g := xqG_new (m := m) (k := 1) (z := n) (n := n)
    have k1 := xnew_K (m := m) (k := 1) (z := n) (n := n)
    have k2 := xnew_Z (m := m) (k := 1) (z := n) (n := n)
    have k3 := xnew_N (m := m) (k := 1) (z := n) (n := n)
    have k4 := xnew_T (m := m) (k := 1) (z := n) (n := n)
    generalize jnew m 1 n n = m4 at g k1 k2 k3 k4 ⊢
    have gs := g s hs
    rw [jgd_t (show jK m4 s = 1 by rw [gs.1]; exact hK), jgd_t k1, jgd_t (show ¬ (0 : Int32) < 0 by decide), jgd_t (show ¬ (0 : Int32) < 0 by decide), gs.2.1, hZ, if_pos (ji_ltp (by omega) (by omega) (by omega)), jgd_t (ji_ge0 (by omega)), ji_n (by omega), show (0 : Int32).toNatClampNeg = 0 from rfl, k2, jgd_t (show 0 + n ≤ z by omega), jgd_t (show 0 + n ≤ n by omega)]
    refine ⟨_, rfl, k3, k4, fun a q => ?_, ?_, ?_, fun i hi => ?_⟩
    · have ga := g a q
      refine ⟨ga.1, ga.2.1, ?_, ga.2.2.2.1, ga.2.2.2.2⟩
      show jat (jI m4) (32 + jN m) _ a = _
      rw [jat_ne _ _ (by omega)]
      exact ga.2.2.1
    · exact k1
    · exact k2
    · show jat (jI m4) (32 + jN m) _ (32 + jN m) i = _
      rw [jat_self]
      show (if 0 ≤ i ∧ i < 0 + n then jI m4 s (0 + (i - 0)) else jI m4 (32 + jN m) i) = _
      rw [if_pos (by omega), Nat.zero_add, Nat.sub_zero, gs.2.2.1]
/-- a text's constructor: the cell c is the last one -/
theorem q_tinit {c s z n : Nat} (hc : 32 + jN m = c + 1) (hc0 : 32 ≤ c) (hKc : jK m c = 39) (hs : s < c) (hK : jK m s = 1) (hZ : jZ m s = z) (hn : n ≤ z) (hz : z ≤ 160) : ∃ m', c_X7_init F m c s (Int32.ofNat n) = some m' ∧ jN m' = jN m + 2 ∧ jT m' = jT m + 64 + n ∧ xqG c m m' ∧ jK m' c = 39 ∧ jP m' c 0 = c + 2 ∧ jP m' c 1 = c + 1 ∧ jK m' (c + 1) = 1 ∧ jZ m' (c + 1) = 64 ∧ jK m' (c + 2) = 1 ∧ jZ m' (c + 2) = n ∧ ∀ i, i < n → jI m' (c + 2) i = jI m s i := by
  unfold c_X7_init
  rw [jgd_t (show ¬ c = 0 by omega), jgd_t (show ¬ (64 : Int32) < 0 ∧ (64 : Int32).toNatClampNeg ≤ 10000 by decide), show (64 : Int32).toNatClampNeg = 64 from rfl, jlet_m]
  have g := xqG_new (m := m) (k := 1) (z := 64) (n := 64)
  have k1 := xnew_K (m := m) (k := 1) (z := 64) (n := 64)
  have k2 := xnew_Z (m := m) (k := 1) (z := 64) (n := 64)
  have k3 := xnew_N (m := m) (k := 1) (z := 64) (n := 64)
  have k4 := xnew_T (m := m) (k := 1) (z := 64) (n := 64)
  generalize jnew m 1 64 64 = m3 at g k1 k2 k3 k4 ⊢
  rw [hc] at g k1 k2 ⊢
  have gc := g c (by omega)
  have gs := g s (by omega)
  rw [jgd_t (show jK m3 c = 39 by rw [gc.1]; exact hKc)]
  have hmx : (if (0 : Int32) < Int32.ofNat n then Int32.ofNat n else (0 : Int32)) = Int32.ofNat n := by
    by_cases e : n = 0
    · subst e
      rfl
    · rw [if_pos (show (0 : Int32) < Int32.ofNat n from ji_ltp (a := 0) (by omega) (by omega) (by omega))]
  rw [hmx]
  have g2 : xqG c m (jsP m3 c 1 (c + 1)) := (g.weak (by omega)).trans (xqG_P (Nat.le_refl _))
  obtain ⟨m6, a1, a2, a3, a4, a5, a6, a7⟩ := q_copyOf (F := F) (m := jsP m3 c 1 (c + 1)) (s := s) (z := z) (n := n) (by show s < 32 + jN m3; omega) (by show jK m3 s = 1; rw [gs.1]; exact hK) (by show jZ m3 s = z; rw [gs.2.1]; exact hZ) hn hz
  have eN : 32 + jN (jsP m3 c 1 (c + 1)) = c + 2 := by show 32 + jN m3 = c + 2; omega
  rw [eN] at a1 a4 a5 a6 a7
  rw [a1, jb_some]
  dsimp only
  have b4 := a4 c (by omega)
  have b5 := a4 (c + 1) (by omega)
  rw [jgd_t (show jK m6 c = 39 by rw [b4.1]; show jK m3 c = 39; rw [gc.1]; exact hKc)]
  refine ⟨_, rfl, ?_, ?_, (g2.trans (a4.weak (by omega))).trans (xqG_P (Nat.le_refl _)), ?_, ?_, ?_, ?_, ?_, a5, a6, fun i hi => ?_⟩
  · show jN m6 = _
    rw [a2]
    show jN m3 + 1 = _
    omega
  · show jT m6 = _
    rw [a3]
    show jT m3 + n = _
    omega
  · show jK m6 c = 39
    rw [b4.1]
    show jK m3 c = 39
    rw [gc.1]
    exact hKc
  · show jup (jP m6) c 0 (c + 2) c 0 = c + 2
    exact if_pos ⟨rfl, rfl⟩
  · show jup (jP m6) c 0 (c + 2) c 1 = c + 1
    rw [jup_at]
    show (if 1 = 0 then c + 2 else jP m6 c 1) = c + 1
    rw [if_neg (by omega), b4.2.2.2.2]
    show jup (jP m3) c 1 (c + 1) c 1 = c + 1
    exact if_pos ⟨rfl, rfl⟩
  · show jK m6 (c + 1) = 1
    rw [b5.1]
    exact k1
  · show jZ m6 (c + 1) = 64
    rw [b5.2.1]
    exact k2
  · show jI m6 (c + 2) i = _
    rw [a7 i hi]
    show jI m3 s i = _
    rw [gs.2.2.1]
end XTEXT
