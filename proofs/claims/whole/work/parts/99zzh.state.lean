/-! both sides together -/
abbrev jS6 : Type := jD × jTS × (Nat × (Nat → Nat)) × (Nat × (Nat → Int32)) × jHt × jIt
def jXA (s : jS6) (m : jMe) : Prop := xqQ s.1 s.2.1.1 m ∧ (jN m = 94 + 3 * s.2.1.1 ∧ jT m ≤ 7300000 + 300 * s.2.1.1) ∧ xTp s.2.2.1 m ∧ xSl s.2.2.2.1 m ∧ xHm s.2.2.2.2.1 m ∧ xIm s.2.2.2.2.2 m
def jYA (s : jS6) (m : jMe) : Prop := jyQ s.1 s.2.1 m ∧ jDS s.1 s.2.1 ∧ jyTp s.2.2.1 m ∧ jySl s.2.2.2.1 m ∧ jyHm s.2.2.2.2.1 m ∧ yIm s.2.2.2.2.2 m ∧ jIv s.1 s.2.1 s.2.2.2.2.2
/-- cells that calls of the class leave as they are -/
def jfC (m m' : jMe) : Prop := ∀ a, (a = 2 ∨ (101 ≤ a ∧ a ≤ 128)) → jK m' a = jK m a ∧ jZ m' a = jZ m a ∧ jP m' a = jP m a ∧ jI m' a = jI m a ∧ jL m' a = jL m a
theorem jfC_x {Q : Nat → Nat → Prop} {m m' : jMe} (h : xqF Q m m') (hQ : ∀ a i, (a = 2 ∨ (101 ≤ a ∧ a ≤ 128)) → ¬ Q a i) : jfC m m' := fun a ha =>
  ⟨by rw [h.K], by rw [h.Z], h.P (by omega), funext fun i => h.I (hQ a i ha), funext fun i => h.L (hQ a i ha)⟩
theorem jfC_X {w : Nat} (hw : 1 ≤ w) {m m' : jMe} (h : xqX w m m') : jfC m m' := fun a ha => by
  obtain ⟨⟨h1, h2⟩, h3, h4⟩ := h a (by omega)
  obtain ⟨h5, h6⟩ := h4 (by omega) (by omega)
  exact ⟨h1, h2, h3 (by omega), funext fun i => h6 i (by omega), h5⟩
theorem jYA_g {s : jS6} {m m' : jMe} (h : jfC m m') (k : jYA s m) : jYA s m' := by
  obtain ⟨⟨⟨k1, k2, ⟨t1, t2, x, y, t3, t4, t5, t6⟩, k4⟩, ⟨z, z1, z2⟩, k37, k39⟩, kDS, ⟨b1, b2, b3⟩, ⟨l1, l2, l3⟩, kH, ⟨i1, i2⟩, kv⟩ := k
  have hI : ∀ a i, 101 ≤ a → a ≤ 128 → jI m' a i = jI m a i := fun a i h1 h2 => by rw [(h a (Or.inr ⟨h1, h2⟩)).2.2.2.1]
  have hL : ∀ a i, 101 ≤ a → a ≤ 128 → jL m' a i = jL m a i := fun a i h1 h2 => by rw [(h a (Or.inr ⟨h1, h2⟩)).2.2.2.2]
  refine ⟨⟨⟨⟨?_, fun j hj => ?_⟩, jCm_of (fun a i q => hI a i (by unfold jSm at q; omega) (by unfold jSm at q; omega)) k2, ⟨by rw [hI _ _ (by omega) (by omega)]; exact t1, fun t ht => ⟨by rw [hI _ _ (by omega) (by omega)]; exact (t2 t ht).1, fun i hi => by rw [hI _ _ (by omega) (by omega)]; exact (t2 t ht).2 i hi⟩, x, y, t3, t4, by rw [hI _ _ (by omega) (by omega)]; exact t5, by rw [hI _ _ (by omega) (by omega)]; exact t6⟩, fun p hp => ?_⟩, ⟨z, z1, by rw [hI _ _ (by omega) (by omega)]; exact z2⟩, by rw [hI _ _ (by omega) (by omega)]; exact k37, by rw [hI _ _ (by omega) (by omega)]; exact k39⟩, kDS, ⟨by rw [hI _ _ (by omega) (by omega)]; exact b1, b2, fun i hi => ⟨by rw [hI _ _ (by omega) (by omega)]; exact (b3 i hi).1, (b3 i hi).2⟩⟩, ⟨l1, by rw [hI _ _ (by omega) (by omega)]; exact l2, fun i hi => by rw [hI _ _ (by omega) (by omega)]; exact l3 i hi⟩, fun x hx => ?_, ⟨fun q => by rw [hI _ _ (by omega) (by omega)]; exact i1 q, fun q => ?_⟩, kv⟩
  · rw [(h 101 (by omega)).1]
    exact k1.1
  · rw [(h 101 (by omega)).2.2.1, (h (102 + j) (by omega)).1, (h (102 + j) (by omega)).2.1]
    exact k1.2 j hj
  · have := k4 p hp
    rw [hL _ _ (by omega) (by omega), hI _ _ (by omega) (by omega)]
    exact this
  · obtain ⟨g1, g2, g3, g4, g5⟩ := kH x hx
    exact ⟨by rw [hI _ _ (by omega) (by omega)]; exact g1, g2, g3, fun q => ⟨by rw [hI _ _ (by omega) (by omega)]; exact (g4 q).1, (g4 q).2.1, by rw [hI _ _ (by omega) (by omega)]; exact (g4 q).2.2⟩, fun i hi => by rw [hL _ _ (by omega) (by omega)]; exact g5 i hi⟩
  · obtain ⟨g1, g2, g3, g4⟩ := i2 q
    exact ⟨by rw [hI _ _ (by omega) (by omega)]; exact g1, by rw [hI _ _ (by omega) (by omega)]; exact g2, by rw [hI _ _ (by omega) (by omega)]; exact g3, fun r hr => ⟨by rw [hI _ _ (by omega) (by omega)]; exact (g4 r hr).1, fun k hk => ⟨by rw [hI _ _ (by omega) (by omega)]; exact ((g4 r hr).2 k hk).1, by rw [hI _ _ (by omega) (by omega)]; exact ((g4 r hr).2 k hk).2⟩⟩⟩
abbrev jR28 (a _i : Nat) : Prop := 101 ≤ a ∧ a ≤ 128
theorem jXA_g {s : jS6} {m m' : jMe} (h : jfx jR28 m m') (k : jXA s m) : jXA s m' := by
  obtain ⟨k1, ⟨k2, k3⟩, ⟨b1, b2, b3⟩, ⟨l1, l2, l3⟩, kH, kI⟩ := k
  refine ⟨xqQ_fx (xqF_x h) (fun a i q => by unfold xqV; omega) k1, ⟨by rw [h.1]; exact k2, by rw [h.2.1]; exact k3⟩, ⟨by rw [h.I (by omega)]; exact b1, b2, fun i hi => ⟨by rw [h.I (by omega)]; exact (b3 i hi).1, (b3 i hi).2⟩⟩, ⟨l1, by rw [h.I (by omega)]; exact l2, fun i hi => by rw [h.I (by omega)]; exact l3 i hi⟩, xHm_fx (xqF_x h) (fun a i q1 q2 z => by omega) kH, xIm_fx (fun a i q1 q2 => h.I (by omega)) kI⟩
/-- a call of each, the same answer -/
def jOK {α : Type} (s : jS6) (c r : jMe → Option (α × jMe)) : Prop := ∃ v s', (∀ m, jXA s m → ∃ m1, c m = some (v, m1) ∧ jXA s' m1 ∧ jfC m m1) ∧ ∀ m, jYA s m → ∃ m2, r m = some (v, m2) ∧ jYA s' m2 ∧ jfx jR28 m m2
def jOKp {α : Type} (s : jS6) (c r : jMe → Option α) : Prop := ∃ v, (∀ m, jXA s m → c m = some v) ∧ ∀ m, jYA s m → r m = some v
def jInv (s : jS6) (Z : Nat) (m : jMe) : Prop := jXA s m ∧ jYA s m ∧ jK m 2 = 8 ∧ jZ m 2 = Z
def jGo (Z k : Nat) (B : jMe → Nat → Nat → Nat → Int32 → Option ((Int32 × jMe) ⊕ jMe)) (x : Option ((Int32 × jMe) ⊕ jMe)) : Prop := ∃ m' s', x = B m' 2 32 101 (Int32.ofNat k + 6) ∧ jInv s' Z m'
theorem jgo_ite {Z k : Nat} {B : jMe → Nat → Nat → Nat → Int32 → Option ((Int32 × jMe) ⊕ jMe)} {c : Prop} [Decidable c] {x y : Option ((Int32 × jMe) ⊕ jMe)} (h1 : c → jGo Z k B x) (h2 : ¬ c → jGo Z k B y) : jGo Z k B (if c then x else y) := by
  by_cases h : c
  · rw [if_pos h]; exact h1 h
  · rw [if_neg h]; exact h2 h
theorem jInv_2 {s s' : jS6} {Z : Nat} {m m1 m2 : jMe} (h : jInv s Z m) (hc : jfC m m1) (hx : jXA s' m1) (hy : jYA s' m2) (hr : jfx jR28 m1 m2) : jInv s' Z m2 :=
  ⟨jXA_g hr hx, hy, by rw [hr.K, (hc 2 (Or.inl rfl)).1]; exact h.2.2.1, by rw [hr.2.2.2.1, (hc 2 (Or.inl rfl)).2.1]; exact h.2.2.2⟩
