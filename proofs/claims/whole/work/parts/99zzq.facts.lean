/-! what holds at the start -/
def jz0 : jMe := jw117 0 (fun _ => 0)
def jD0 : jD := ((0, 0, 0), (fun _ => 0), (fun _ => 0), (fun _ => 0), (fun _ => 0), (fun _ _ _ => 0), (fun _ _ => 0), fun _ => jtell [16])
def jtx0 (i : Nat) : Nat := [102, 105, 116, 115, 32, 49, 32, 59, 32, 32, 32, 32, 32, 32, 32, 32].getD i 0
def jTS0 : jTS := (1, (fun _ => jtx0), fun _ => 16)
theorem jf0_zrd : jzrd jtx0 16 = .inr [16] := by decide +kernel
theorem jf0_L1 : xqL1 jz0 := by unfold xqL1; decide +kernel
theorem jf0_LR : jLR jz0 := by unfold jLR jLr jrc jrv jrk; decide +kernel
theorem jf0_LJ49 : jLJ jz0 49 := by unfold jLJ jLT; decide +kernel
theorem jf0_LJ63 : jLJ jz0 63 := by unfold jLJ jLT; decide +kernel
theorem jf0_L2 : xqL2 jz0 := by unfold xqL2 jLsh; decide +kernel
theorem jf0_L3 : xqL3 jz0 := by unfold xqL3; decide +kernel
theorem jf0_L4 : xqL4 jz0 := by unfold xqL4; decide +kernel
theorem jf0_LM : jLM jz0 := by unfold jLM; decide +kernel
theorem jf0_C : ∀ r, r < 4 → jCr jD0 jz0 r := by
  intro r hr
  have : ∀ r : Fin 4, (jI jz0 (77 + 3 * r.1) 2 = 0 ∧ jI jz0 (77 + 3 * r.1) 3 = 0 ∧ jI jz0 (77 + 3 * r.1) 4 = 0 ∧ jI jz0 (77 + 3 * r.1) 5 = 0 ∧ jI jz0 (77 + 3 * r.1) 6 = 0) := by decide +kernel
  obtain ⟨a, b, c, d, e⟩ := this ⟨r, hr⟩
  refine ⟨a, b, fun x hx => ?_, d, e, fun k hk => absurd hk (Nat.not_lt_zero k)⟩
  show jnb (jI jz0 (77 + 3 * r) 4) x = if (0 : Nat).testBit x = true then 15 else 0
  rw [c, jnb_0, Nat.zero_testBit]
  rfl
theorem jf0_32 : jI jz0 32 10 = 1 ∧ jI jz0 32 11 = 0 ∧ jI jz0 32 12 = 1 ∧ jI jz0 32 13 = 0 ∧ jI jz0 32 14 = 0 ∧ jI jz0 32 15 = 0 ∧ jI jz0 36 2 = 0 ∧ jI jz0 39 0 = 0 := by decide +kernel
theorem jf0_sh : ∀ s, s < 4 → jI jz0 (89 + 2 * s) 1 = -1 ∧ jI jz0 (89 + 2 * s) 2 = 0 := by decide +kernel
theorem jf0_NT : jN jz0 = 97 ∧ jT jz0 ≤ 7300000 := by decide +kernel
theorem jf0_tx : jP jz0 34 0 = 97 ∧ jK jz0 97 = 39 ∧ jP jz0 97 0 = 100 ∧ jP jz0 97 1 = 99 ∧ jK jz0 100 = 1 ∧ jZ jz0 100 = 1 ∧ jK jz0 99 = 1 ∧ jZ jz0 99 = 64 ∧ jI jz0 100 0 = 16 := by decide +kernel
theorem jf0_y : jI jz0 101 3 = 1 ∧ jI jz0 101 4 = 0 ∧ jI jz0 101 6 = 0 ∧ jI jz0 101 10 = 0 ∧ jI jz0 101 14 = 0 ∧ jI jz0 101 15 = 0 ∧ jI jz0 101 16 = 0 ∧ jI jz0 101 29 = 0 ∧ jI jz0 101 37 = -1 ∧ jI jz0 101 39 = -1 ∧ jI jz0 101 49 = 0 ∧ jI jz0 101 53 = -1 ∧ jI jz0 103 0 = 16 := by decide +kernel
theorem jf0_y2 : ∀ r, r < 4 → jI jz0 105 r = 0 ∧ jI jz0 106 r = 0 ∧ jI jz0 107 r = 0 ∧ jI jz0 125 r = 0 := by decide +kernel
theorem jf0_y3 : ∀ i, i < 16 → jI jz0 102 i = Int32.ofNat (jtx0 i) := by decide +kernel
theorem jf0_y4 : ∀ p, p < 256 → jL jz0 111 p = 0 := by decide +kernel
theorem jf0_ls : jK jz0 1 = 9 ∧ jZ jz0 1 = 6 ∧ ∀ j, j < 6 → jI jz0 1 j = jISv j := by decide +kernel
theorem jf0_zT : jzT jz0 := by unfold jzT; decide +kernel
def jFz (z : jMe) : Prop := (xqL z ∧ jLs z ∧ jzT z ∧ jLM z) ∧ (∀ r, r < 4 → jCr jD0 z r) ∧ (jI z 32 10 = 1 ∧ jI z 32 11 = 0 ∧ jI z 32 12 = 1 ∧ jI z 32 13 = 0 ∧ jI z 32 14 = 0 ∧ jI z 32 15 = 0 ∧ jI z 36 2 = 0 ∧ jI z 39 0 = 0) ∧ (∀ s, s < 4 → jI z (89 + 2 * s) 1 = -1 ∧ jI z (89 + 2 * s) 2 = 0) ∧ (jN z = 97 ∧ jT z ≤ 7300000) ∧ (jP z 34 0 = 97 ∧ jK z 97 = 39 ∧ jP z 97 0 = 100 ∧ jP z 97 1 = 99 ∧ jK z 100 = 1 ∧ jZ z 100 = 1 ∧ jK z 99 = 1 ∧ jZ z 99 = 64 ∧ jI z 100 0 = 16) ∧ (jI z 101 3 = 1 ∧ jI z 101 4 = 0 ∧ jI z 101 6 = 0 ∧ jI z 101 10 = 0 ∧ jI z 101 14 = 0 ∧ jI z 101 15 = 0 ∧ jI z 101 16 = 0 ∧ jI z 101 29 = 0 ∧ jI z 101 37 = -1 ∧ jI z 101 39 = -1 ∧ jI z 101 49 = 0 ∧ jI z 101 53 = -1 ∧ jI z 103 0 = 16) ∧ (∀ r, r < 4 → jI z 105 r = 0 ∧ jI z 106 r = 0 ∧ jI z 107 r = 0 ∧ jI z 125 r = 0) ∧ (∀ i, i < 16 → jI z 102 i = Int32.ofNat (jtx0 i)) ∧ ∀ p, p < 256 → jL z 111 p = 0
theorem jFz0 : jFz jz0 := ⟨⟨⟨jf0_L1, ⟨jf0_LR, jf0_LJ49, jf0_LJ63⟩, jf0_L2, jf0_L3, jf0_L4⟩, jf0_ls, jf0_zT, jf0_LM⟩, jf0_C, jf0_32, jf0_sh, jf0_NT, jf0_tx, jf0_y, jf0_y2, jf0_y3, jf0_y4⟩
section FACTS
variable {m z : jMe}
theorem jf_L (h : jrel m z) (g : xqL z ∧ jLs z ∧ jzT z ∧ jLM z) : xqL m ∧ jLs m ∧ jzT m ∧ jLM m := by
  obtain ⟨h1, h2, hK, h4, hL, hP⟩ := h
  obtain ⟨⟨q1, ⟨q2, q3, q4⟩, q5, q6, q7⟩, q8, q9, q10⟩ := g
  have hZ : ∀ a, a ≠ 2 → jZ m a = jZ z a := fun a ha => (h4 a ha).1
  have hI : ∀ a, a ≠ 2 → jI m a = jI z a := fun a ha => (h4 a ha).2
  have e1 : jLR m := by
    have := q2
    unfold jLR jLr jrc jrv jrk at this ⊢
    rw [hK, hP, hZ 33 (by decide)]
    refine ⟨this.1, this.2.1, fun r hr => ?_⟩
    rw [hZ (78 + 3 * r) (by omega), hZ (79 + 3 * r) (by omega)]
    exact this.2.2 r hr
  have e2 : ∀ b, 32 ≤ b → jLJ z b → jLJ m b := by
    intro b hb
    have hn : ∀ j, b + j ≠ 2 := fun j => by omega
    have z6 := hZ (b + 6) (hn 6)
    have z7 := hZ (b + 7) (hn 7)
    have z8 := hZ (b + 8) (hn 8)
    have z9 := hZ (b + 9) (hn 9)
    have z11 := hZ (b + 11) (hn 11)
    have z12 := hZ (b + 12) (hn 12)
    have z13 := hZ (b + 13) (hn 13)
    have y1 := hZ (b + 1 + 1) (hn 2)
    have y2 := hZ (b + 1 + 2) (hn 3)
    have y3 := hZ (b + 1 + 3) (hn 4)
    have y4 := hZ (b + 1 + 4) (hn 5)
    intro this
    unfold jLJ jLT at this ⊢
    rw [hK, hP, z6, z7, z8, z9, z11, z12, z13, y1, y2, y3, y4]
    exact this
  have e3 : xqL1 m := by
    have := q1
    unfold xqL1 at this ⊢
    rw [hK, hP]
    exact this
  have e4 : xqL2 m := by
    have := q5
    unfold xqL2 jLsh at this ⊢
    rw [hK, hP, hZ 34 (by decide), hZ 35 (by decide)]
    refine ⟨this.1, this.2.1, this.2.2.1, this.2.2.2.1, fun s hs => ?_⟩
    rw [hZ (90 + 2 * s) (by omega)]
    exact this.2.2.2.2 s hs
  have e5 : xqL3 m := by
    have := q6
    unfold xqL3 at this ⊢
    rw [hK, hP, hZ 40 (by decide), hZ 41 (by decide), hZ 42 (by decide)]
    exact this
  have e6 : xqL4 m := by
    have := q7
    unfold xqL4 at this ⊢
    rw [hK, hP, hZ 45 (by decide), hZ 46 (by decide), hZ 47 (by decide), hZ 48 (by decide)]
    exact this
  refine ⟨⟨e3, ⟨e1, e2 49 (by decide) q3, e2 63 (by decide) q4⟩, e4, e5, e6⟩, ?_, ?_, ?_⟩
  · show jK m 1 = 9 ∧ jZ m 1 = 6 ∧ ∀ j, j < 6 → jI m 1 j = jISv j
    rw [hK, hZ 1 (by decide), hI 1 (by decide)]
    exact q8
  · have := q9
    unfold jzT at this ⊢
    rw [hK, hP, hZ 37 (by decide), hZ 38 (by decide)]
    obtain ⟨a1, a2, a3, a4, a5, a6, a7, a8⟩ := this
    refine ⟨a1, a2, a3, a4, a5, a6, a7, fun i hi => ?_⟩
    rw [hZ (11 + i) (by omega), hI (11 + i) (by omega)]
    exact a8 i hi
  · have := q10
    unfold jLM at this ⊢
    rw [hK, hP]
    refine ⟨this.1, fun j hj => ?_⟩
    rw [hZ (102 + j) (by omega)]
    exact this.2 j hj
theorem jf_D : jDS jD0 jTS0 := by
  refine ⟨⟨by decide, by decide, fun r hr => ⟨by show (0 : Nat) < 6; omega, by show (0 : Nat) < 64; omega, by show (0 : Nat) ≤ 8; omega, by show (0 : Nat) < 2 ^ 0; omega, fun k hk => absurd hk (Nat.not_lt_zero k)⟩, fun r hr => absurd hr (Nat.not_lt_zero r), fun r _ => ⟨rfl, rfl⟩⟩, ⟨by decide, by decide, fun t ht => ⟨by show (16 : Nat) ≤ 160; omega, ?_, [16], jf0_zrd⟩⟩, by decide, fun t ht r k f cp => ?_⟩
  · have : ∀ i, i < 16 → jtx0 i < 256 := by decide +kernel
    exact this
  · have e : jTc jTS0 t = [16] := by
      unfold jTc
      rw [show jzrd (jTS0.2.1 t) (jTS0.2.2 t) = .inr [16] from jf0_zrd]
    rw [e]
    rfl
def js0 : jS6 := (jD0, jTS0, (0, fun _ => 0), (0, fun _ => 0), ((fun _ => false), (fun _ => 0), (fun _ => 0), fun _ _ => 0), (false, (0, 0, 0), (fun _ => 0), (fun _ => 0), fun _ _ => 0))
theorem jf_X (h : jrel m z) (fz : jFz z) : jXA js0 m := by
  obtain ⟨fL, fC, f32, fsh, fNT, ftx, fy, fy2, fy3, fy4⟩ := fz
  obtain ⟨l1, l2, l3, l4⟩ := jf_L h fL
  obtain ⟨h1, h2, hK, h4, hL, hP⟩ := h
  have hZ : ∀ a, a ≠ 2 → jZ m a = jZ z a := fun a ha => (h4 a ha).1
  have hI : ∀ a, a ≠ 2 → jI m a = jI z a := fun a ha => (h4 a ha).2
  obtain ⟨g1, g2, g3, g4, g5, g6, g7, g8⟩ := f32
  obtain ⟨n1, n2⟩ := fNT
  obtain ⟨t1, t2, t3, t4, t5, t6, t7, t8, t9⟩ := ftx
  have e32 := hI 32 (by decide)
  refine ⟨xqQ_s ⟨jf_D.1, l1, ⟨l2, l3⟩, fun r hr => jCr_of (hI _ (by unfold jrc; omega)) (hI _ (by unfold jrv; omega)) (hI _ (by unfold jrk; omega)) (fC r hr), ⟨by rw [e32]; exact g2, by rw [e32]; exact g3, by rw [e32]; exact g5, by rw [e32]; exact g6⟩, ⟨by decide, by decide, by decide⟩, fun t ht => ?_⟩ (by rw [e32]; exact g1), ⟨by rw [h1, n1]; rfl, by rw [h2]; show jT z ≤ 7300000 + 300 * 1; omega⟩, ⟨by rw [hI 36 (by decide)]; exact g7, by decide, fun i hi => absurd hi (Nat.not_lt_zero i)⟩, ⟨by decide, by rw [e32]; exact g4, fun i hi => absurd hi (Nat.not_lt_zero i)⟩, fun s hs => ?_, fun _ => by rw [hI 39 (by decide)]; exact g8, fun q => by cases q⟩
  · have ht : t < 1 := ht
    have h0 : t = 0 := by omega
    subst h0
    refine ⟨by rw [hP]; exact t1, 1, ⟨by rw [hK]; exact t2, by rw [hP]; exact t3, by rw [hP]; exact t4, by rw [hK]; exact t5, by show jZ m 100 = 1; rw [hZ 100 (by decide)]; exact t6, by rw [hK]; exact t7, by show jZ m 99 = 64; rw [hZ 99 (by decide)]; exact t8, by decide, by decide⟩, Or.inl rfl, Or.inl rfl, fun r k f cp => ?_⟩
    show jtell [jI m 100 0] r k f cp = jtell [16] r k f cp
    rw [hI 100 (by decide), t9]
  · obtain ⟨q1, q2⟩ := fsh s hs
    exact ⟨by rw [hI _ (by omega)]; exact q1, by rw [hI _ (by omega)]; exact q2, by show (0 : Nat) ≤ 40; omega, fun q => (by cases q), fun _ => rfl, fun i hi => absurd hi (Nat.not_lt_zero i)⟩
theorem jf_Y (h : jrel m z) (fz : jFz z) : jYA js0 m := by
  obtain ⟨fL, fC, f32, fsh, fNT, ftx, fy, fy2, fy3, fy4⟩ := fz
  obtain ⟨l1, l2, l3, l4⟩ := jf_L h fL
  obtain ⟨h1, h2, hK, h4, hL, hP⟩ := h
  have hI : ∀ a, a ≠ 2 → jI m a = jI z a := fun a ha => (h4 a ha).2
  obtain ⟨y3, y4, y6, y10, y14, y15, y16, y29, y37, y39, y49, y53, y103⟩ := fy
  have e1 := hI 101 (by decide)
  refine ⟨⟨⟨l4, ⟨by rw [e1]; exact y10, by rw [e1]; exact y4, by rw [e1]; exact y14, fun r hr => ?_⟩, ⟨by rw [e1]; exact y3, fun t ht => ?_, 0, 0, by decide, by decide, by rw [e1]; exact y15, by rw [e1]; exact y16⟩, fun p hp => Or.inl (by rw [hL]; exact fy4 p hp)⟩, ⟨0, by decide, by rw [e1]; exact y29⟩, by rw [e1]; exact y37, by rw [e1]; exact y39⟩, jf_D, ⟨by rw [e1]; exact y6, by decide, fun i hi => absurd hi (Nat.not_lt_zero i)⟩, ⟨by decide, by rw [e1]; exact y49, fun i hi => absurd hi (Nat.not_lt_zero i)⟩, fun s hs => ?_, ⟨fun _ => by rw [e1]; exact y53, fun q => by cases q⟩, fun q => by cases q⟩
  · obtain ⟨q1, q2, q3, q4⟩ := fy2 r hr
    exact ⟨by rw [hI 105 (by decide)]; exact q1, by rw [hI 106 (by decide)]; exact q2, by rw [hI 107 (by decide)]; exact q3, fun k hk => absurd hk (Nat.not_lt_zero k)⟩
  · have ht : t < 1 := ht
    have h0 : t = 0 := by omega
    subst h0
    refine ⟨by rw [hI 103 (by decide)]; exact y103, fun i hi => ?_⟩
    have hi : i < 16 := hi
    rw [hI 102 (by decide), show 160 * 0 + i = i by omega]
    exact fy3 i hi
  · obtain ⟨q1, q2, q3, q4⟩ := fy2 s hs
    exact ⟨by rw [hI 125 (by decide)]; exact q4, by show (0 : Nat) ≤ 40; omega, fun _ => rfl, fun q => (by cases q), fun i hi => absurd hi (Nat.not_lt_zero i)⟩
end FACTS
set_option maxRecDepth 40000 in
theorem jstart_ok {F L : Nat} {xs : Nat → Int32} : jStart (F + 5) L xs := by
  refine ⟨jw77 L xs, jw117 L xs, js0, jst_9 F L xs, rfl, jst_10 (F + 5) L xs, jf_X jre_jw117 jFz0, jf_Y jre_jw117 jFz0, rfl, rfl⟩
theorem jlaw_b {L : Nat} {xs : Nat → Int32} (hL : L ≤ 3072) : ∃ F m', c_L_law F (jm00 L xs) 2 = some (1, m') ∧ jN m' ≤ 600000 ∧ jT m' ≤ 7302249 := by
  obtain ⟨m', h1, h2, h3⟩ := jlaw_of (F := 6000 + 5) (by omega) hL (jstart_ok (xs := xs))
  exact ⟨6000 + 5, m', h1, h2, h3⟩
