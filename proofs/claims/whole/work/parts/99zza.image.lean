/-! the image, both sides -/
abbrev jIt : Type := Bool × (Nat × Nat × Nat) × (Nat → Nat) × (Nat → Nat) × (Nat → Nat → Nat)
def jImg (D : jD) : jIt := (true, D.1, jDz D, jDl D, jDc D)
def jBk (D : jD) (I : jIt) : jD := (I.2.1, D.2.1, D.2.2.1, I.2.2.1, I.2.2.2.1, D.2.2.2.2.2.1, I.2.2.2.2, jDt D)
/-- an image that can be laid back -/
def jIv (D : jD) (S : jTS) (I : jIt) : Prop := I.1 = true → I.2.1.1 ≤ jDn D ∧ I.2.1.2.1 < S.1 ∧ I.2.1.2.2 < 2 ^ I.2.1.1 ∧ (∀ r, I.2.1.1 ≤ r → I.2.2.1 r = 0 ∧ I.2.2.2.1 r = 0) ∧ ∀ r, r < 4 → I.2.2.1 r ≤ jDz D r ∧ I.2.2.2.1 r < 2 ^ I.2.2.1 r ∧ ∀ k, k < I.2.2.1 r → 1 ≤ I.2.2.2.2 r k ∧ I.2.2.2.2 r k ≤ 2000000000
theorem jIv_ok {D : jD} {S : jTS} {I : jIt} (h : jDS D S) (hI : jIv D S I) (h1 : I.1 = true) : jDS (jBk D I) S := by
  obtain ⟨⟨d1, d2, d3, d4, d5⟩, t1, t2, t3⟩ := h
  obtain ⟨i1, i2, i3, i4, i5⟩ := hI h1
  refine ⟨⟨Nat.le_trans i1 d1, i3, fun r hr => ?_, fun r hr => d4 r (Nat.lt_of_lt_of_le hr i1), i4⟩, t1, i2, t3⟩
  obtain ⟨e1, e2, e3, e4, e5⟩ := d3 r hr
  obtain ⟨j1, j2, j3⟩ := i5 r hr
  exact ⟨e1, e2, Nat.le_trans j1 e3, j2, fun k hk => ⟨(e5 k (Nat.lt_of_lt_of_le hk j1)).1, (e5 k (Nat.lt_of_lt_of_le hk j1)).2.1, j3 k hk⟩⟩
theorem jIv_m {D D' : jD} {S S' : jTS} {I : jIt} (h : jIv D S I) (h1 : jDn D ≤ jDn D') (h2 : ∀ r, jDz D r ≤ jDz D' r) (h3 : S.1 ≤ S'.1) : jIv D' S' I := by
  intro q
  obtain ⟨i1, i2, i3, i4, i5⟩ := h q
  exact ⟨Nat.le_trans i1 h1, Nat.lt_of_lt_of_le i2 h3, i3, i4, fun r hr => ⟨Nat.le_trans (i5 r hr).1 (h2 r), (i5 r hr).2⟩⟩
theorem jIv_i {D : jD} {S : jTS} (h : jDS D S) : jIv D S (jImg D) := by
  intro _
  obtain ⟨⟨d1, d2, d3, d4, d5⟩, t1, t2, t3⟩ := h
  exact ⟨Nat.le_refl _, t2, d2, d5, fun r hr => ⟨Nat.le_refl _, (d3 r hr).2.2.2.1, fun k hk => ((d3 r hr).2.2.2.2 k hk).2.2⟩⟩
theorem jIv_b {D : jD} {S : jTS} {I : jIt} (hI : jIv D S I) (h1 : I.1 = true) : jIv (jBk D I) S I := by
  intro _
  obtain ⟨i1, i2, i3, i4, i5⟩ := hI h1
  exact ⟨Nat.le_refl _, i2, i3, i4, fun r hr => ⟨Nat.le_refl _, (i5 r hr).2⟩⟩
/-! .. as the class does it -/
def xIm (I : jIt) (m : jMe) : Prop := (I.1 = false → jI m 39 0 = 0) ∧ (I.1 = true → jI m 39 0 = 1 ∧ jI m 39 1 = Int32.ofNat I.2.1.1 ∧ jI m 39 2 = Int32.ofNat I.2.1.2.2 ∧ jI m 39 3 = Int32.ofNat I.2.1.2.1 ∧ ∀ r, r < 4 → jI m 40 r = Int32.ofNat (I.2.2.1 r) ∧ jI m 41 r = Int32.ofNat (I.2.2.2.1 r) ∧ ∀ k, k < I.2.2.1 r → jI m 42 (8 * r + k) = Int32.ofNat (I.2.2.2.2 r k))
theorem xIm_fx {I : jIt} {m m' : jMe} (h : ∀ a i, 39 ≤ a → a ≤ 42 → jI m' a i = jI m a i) (k : xIm I m) : xIm I m' := by
  refine ⟨fun q => by rw [h _ _ (by omega) (by omega)]; exact k.1 q, fun q => ?_⟩
  obtain ⟨k1, k2, k3, k4, k5⟩ := k.2 q
  refine ⟨by rw [h _ _ (by omega) (by omega)]; exact k1, by rw [h _ _ (by omega) (by omega)]; exact k2, by rw [h _ _ (by omega) (by omega)]; exact k3, by rw [h _ _ (by omega) (by omega)]; exact k4, fun r hr => ⟨by rw [h _ _ (by omega) (by omega)]; exact (k5 r hr).1, by rw [h _ _ (by omega) (by omega)]; exact (k5 r hr).2.1, fun x hx => by rw [h _ _ (by omega) (by omega)]; exact (k5 r hr).2.2 x hx⟩⟩
theorem jsI_K {m : jMe} {a i : Nat} {x : Int32} : jK (jsI m a i x) = jK m := rfl
theorem jsI_Z {m : jMe} {a i : Nat} {x : Int32} : jZ (jsI m a i x) = jZ m := rfl
theorem jsI_P {m : jMe} {a i : Nat} {x : Int32} : jP (jsI m a i x) = jP m := rfl
theorem jcpI_g {m : jMe} {a i b j n c x : Nat} : jI (jcpI m a i b j n) c x = if c = b ∧ (j ≤ x ∧ x < j + n) then jI m a (i + (x - j)) else jI m c x := by
  show jat (jI m) b (va_cpy (jI m a) (jI m b) i j n) c x = _
  by_cases e : c = b
  · subst e
    rw [jat_self]
    by_cases e2 : j ≤ x ∧ x < j + n
    · rw [if_pos ⟨rfl, e2⟩]
      exact if_pos e2
    · rw [if_neg (fun q => e2 q.2)]
      exact if_neg e2
  · rw [jat_ne _ _ e, if_neg (fun q => e q.1)]
theorem jfx_cp {S : Nat → Nat → Prop} {m : jMe} {a i b j n : Nat} (h : ∀ x, j ≤ x → x < j + n → S b x) : jfx S m (jcpI m a i b j n) :=
  ⟨Eq.refl _, Eq.refl _, Eq.refl _, Eq.refl _, Eq.refl _, fun c x hc => by rw [jcpI_g, if_neg (fun e => hc (by rw [e.1]; exact h x e.2.1 e.2.2))], fun _ _ _ => Eq.refl _⟩
theorem jgd_T {α : Type} [i : Decidable True] {x : Option α} : jgd True x = x := jgd_t True.intro
section XIMAGE
variable {F w : Nat} {D : jD} {m : jMe}
theorem xq_keep_b (hL : xqL m) {B : jMe → Nat → Nat → Int32 → Option jMe} {k : Nat} (hk : k < 4) : c_X1_keep_l24_b F B m 39 33 (Int32.ofNat k) = B (jcpI (jsI (jsI m 40 k (jI m (jrc k) 5)) 41 k (jI m (jrc k) 6)) (jrk k) 0 42 (8 * k) 8) 39 33 (Int32.ofNat (k + 1)) := by
  obtain ⟨i1, i2, i3, i4, i5, i6, i7, i8, i9, i10⟩ := hL.2.2.2.1
  obtain ⟨r1, r2, r3⟩ := hL.2.1.1
  obtain ⟨r4, r5, r6, r7, r8, r9, r10, r11⟩ := r3 k hk
  have g6 : jI (jsI m 40 k (jI m (jrc k) 5)) (jrc k) 6 = jI m (jrc k) 6 := jsI_no (by unfold jrc; omega)
  unfold c_X1_keep_l24_b
  rw [if_neg (show ¬ (4 : Int32) ≤ Int32.ofNat k from ji_len (a := 4) (by omega) (by omega) (by omega))]
  simp only [jsI_K, jsI_Z, jsI_P, i1, i2, i3, i4, i5, i6, i7, i8, i9, i10, r1, r2, r4, r5, r6, r7, r8, r9, r10, r11, ji_n (show k < 2147483648 by omega), ji_int (show k < 2147483648 by omega) hk, show Int32.ofNat k * (8 : Int32) = Int32.ofNat (k * 8) from ji_mul k 8, ji_n (show k * 8 < 2147483648 by omega), g6, show (8 : Int32).toNatClampNeg = 8 from rfl, show (0 : Int32).toNatClampNeg = 0 from rfl]
  simp only [jgd_T]
  rw [jgd_t (show ¬ (0 : Int32) < 0 by decide), jgd_t (show ¬ Int32.ofNat (k * 8) < 0 from ji_ge0 (by omega)), jgd_t (show ¬ (8 : Int32) < 0 by decide), jgd_t (show 0 + 8 ≤ 8 by omega), jgd_t (show k * 8 + 8 ≤ 32 by omega), show Int32.ofNat k + 1 = Int32.ofNat (k + 1) from ji_add k 1, Nat.mul_comm k 8]
theorem xq_lay_b (hL : xqL m) {B : jMe → Nat → Nat → Int32 → Option jMe} {k : Nat} (hk : k < 4) : c_X1_layBack_l2_b F B m 39 33 (Int32.ofNat k) = B (jcpI (jsI (jsI m (jrc k) 5 (jI m 40 k)) (jrc k) 6 (jI m 41 k)) 42 (8 * k) (jrk k) 0 8) 39 33 (Int32.ofNat (k + 1)) := by
  obtain ⟨i1, i2, i3, i4, i5, i6, i7, i8, i9, i10⟩ := hL.2.2.2.1
  obtain ⟨r1, r2, r3⟩ := hL.2.1.1
  obtain ⟨r4, r5, r6, r7, r8, r9, r10, r11⟩ := r3 k hk
  have g6 : jI (jsI m (jrc k) 5 (jI m 40 k)) 41 k = jI m 41 k := jsI_no (by unfold jrc; omega)
  unfold c_X1_layBack_l2_b
  rw [if_neg (show ¬ (4 : Int32) ≤ Int32.ofNat k from ji_len (a := 4) (by omega) (by omega) (by omega))]
  simp only [jsI_K, jsI_Z, jsI_P, i1, i2, i3, i4, i5, i6, i7, i8, i9, i10, r1, r2, r4, r5, r6, r7, r8, r9, r10, r11, ji_n (show k < 2147483648 by omega), ji_int (show k < 2147483648 by omega) hk, show Int32.ofNat k * (8 : Int32) = Int32.ofNat (k * 8) from ji_mul k 8, ji_n (show k * 8 < 2147483648 by omega), g6, show (8 : Int32).toNatClampNeg = 8 from rfl, show (0 : Int32).toNatClampNeg = 0 from rfl]
  simp only [jgd_T]
  rw [jgd_t (show ¬ Int32.ofNat (k * 8) < 0 from ji_ge0 (by omega)), jgd_t (show ¬ (0 : Int32) < 0 by decide), jgd_t (show ¬ (8 : Int32) < 0 by decide), jgd_t (show k * 8 + 8 ≤ 32 by omega), jgd_t (show 0 + 8 ≤ 8 by omega), show Int32.ofNat k + 1 = Int32.ofNat (k + 1) from ji_add k 1, Nat.mul_comm k 8]
end XIMAGE
