/-! a call of each, as the law makes it -/
section PAIRS
variable {s : jS6} {Z k : Nat} {m : jMe} {B : jMe → Nat → Nat → Nat → Int32 → Option ((Int32 × jMe) ⊕ jMe)}
theorem jop0i {cx cr : jMe → Nat → Option (Int32 × jMe)} (hk : k + 6 ≤ Z) (hZ : Z ≤ 3072) (hI : jInv s Z m) (hOK : jOK s (fun m => cx m 32) (fun m => cr m 101)) : jGo Z k B (jgd (jK m 32 = 41) <| jb (cx m 32) fun t => jgd (jK t.2 101 = 42) <| jb (cr t.2 101) fun u => (if t.1 = u.1 then B u.2 2 32 101 (Int32.ofNat k + (6 : Int32)) else some (.inl ((0 : Int32), u.2)))) := by
  have hL : jK m 32 = 41 := hI.1.1.1.2.1.1.1
  have hM : jK m 101 = 42 := hI.2.1.1.1.1.1
  obtain ⟨v, s', h1, h2⟩ := hOK
  dsimp only at h1 h2
  obtain ⟨m1, a1, a2, a3⟩ := h1 m hI.1
  have hy := jYA_g a3 hI.2.1
  obtain ⟨m2, b1, b2, b3⟩ := h2 m1 hy
  have hM1 : jK m1 101 = 42 := hy.1.1.1.1
  obtain ⟨c1, c2, -, c4, -⟩ := a3 2 (Or.inl rfl)
  refine ⟨m2, s', ?_, jInv_2 hI a3 a2 b2 b3⟩
  rw [jgd_t hL, a1, jb_some]
  dsimp only
  rw [jgd_t hM1, b1, jb_some]
  dsimp only
  rw [if_pos (rfl)]
theorem jop0l {cx cr : jMe → Nat → Option (Int64 × jMe)} (hk : k + 6 ≤ Z) (hZ : Z ≤ 3072) (hI : jInv s Z m) (hOK : jOK s (fun m => cx m 32) (fun m => cr m 101)) : jGo Z k B (jgd (jK m 32 = 41) <| jb (cx m 32) fun t => jgd (jK t.2 101 = 42) <| jb (cr t.2 101) fun u => (if (lg_cmp t.1 u.1) = 0 then B u.2 2 32 101 (Int32.ofNat k + (6 : Int32)) else some (.inl ((0 : Int32), u.2)))) := by
  have hL : jK m 32 = 41 := hI.1.1.1.2.1.1.1
  have hM : jK m 101 = 42 := hI.2.1.1.1.1.1
  obtain ⟨v, s', h1, h2⟩ := hOK
  dsimp only at h1 h2
  obtain ⟨m1, a1, a2, a3⟩ := h1 m hI.1
  have hy := jYA_g a3 hI.2.1
  obtain ⟨m2, b1, b2, b3⟩ := h2 m1 hy
  have hM1 : jK m1 101 = 42 := hy.1.1.1.1
  obtain ⟨c1, c2, -, c4, -⟩ := a3 2 (Or.inl rfl)
  refine ⟨m2, s', ?_, jInv_2 hI a3 a2 b2 b3⟩
  rw [jgd_t hL, a1, jb_some]
  dsimp only
  rw [jgd_t hM1, b1, jb_some]
  dsimp only
  rw [if_pos (jc_eq0.mpr rfl)]
theorem jop1i {cx cr : jMe → Nat → Int32 → Option (Int32 × jMe)} (hk : k + 6 ≤ Z) (hZ : Z ≤ 3072) (hI : jInv s Z m) (hOK : ∀ x1 : Int32, jOK s (fun m => cx m 32 x1) (fun m => cr m 101 x1)) : jGo Z k B (jgd (jin (Int32.ofNat k + (1 : Int32)) (jZ m 2) = true) <| jgd (jK m 32 = 41) <| jb (cx m 32 (jI m 2 (Int32.ofNat k + (1 : Int32)).toNatClampNeg)) fun t => jgd (jK t.2 2 = 8) <| jgd (jin (Int32.ofNat k + (1 : Int32)) (jZ t.2 2) = true) <| jgd (jK t.2 101 = 42) <| jb (cr t.2 101 (jI t.2 2 (Int32.ofNat k + (1 : Int32)).toNatClampNeg)) fun u => (if t.1 = u.1 then B u.2 2 32 101 (Int32.ofNat k + (6 : Int32)) else some (.inl ((0 : Int32), u.2)))) := by
  have hL : jK m 32 = 41 := hI.1.1.1.2.1.1.1
  have hM : jK m 101 = 42 := hI.2.1.1.1.1.1
  obtain ⟨v, s', h1, h2⟩ := hOK (jI m 2 (k + 1))
  dsimp only at h1 h2
  obtain ⟨m1, a1, a2, a3⟩ := h1 m hI.1
  have hy := jYA_g a3 hI.2.1
  obtain ⟨m2, b1, b2, b3⟩ := h2 m1 hy
  have hM1 : jK m1 101 = 42 := hy.1.1.1.1
  obtain ⟨c1, c2, -, c4, -⟩ := a3 2 (Or.inl rfl)
  refine ⟨m2, s', ?_, jInv_2 hI a3 a2 b2 b3⟩
  rw [show Int32.ofNat k + (1 : Int32) = Int32.ofNat (k + 1) from ji_add k 1, hI.2.2.2, jgd_t (show jin (Int32.ofNat (k + 1)) Z = true from ji_int (by omega) (by omega)), jgd_t hL, ji_n (show k + 1 < 2147483648 by omega), a1, jb_some]
  dsimp only
  rw [jgd_t (show jK m1 2 = 8 from c1.trans hI.2.2.1), show jZ m1 2 = Z from c2.trans hI.2.2.2, jgd_t (show jin (Int32.ofNat (k + 1)) Z = true from ji_int (by omega) (by omega)), jgd_t hM1, c4, b1, jb_some]
  dsimp only
  rw [if_pos (rfl)]
theorem jop1l {cx cr : jMe → Nat → Int32 → Option (Int64 × jMe)} (hk : k + 6 ≤ Z) (hZ : Z ≤ 3072) (hI : jInv s Z m) (hOK : ∀ x1 : Int32, jOK s (fun m => cx m 32 x1) (fun m => cr m 101 x1)) : jGo Z k B (jgd (jin (Int32.ofNat k + (1 : Int32)) (jZ m 2) = true) <| jgd (jK m 32 = 41) <| jb (cx m 32 (jI m 2 (Int32.ofNat k + (1 : Int32)).toNatClampNeg)) fun t => jgd (jK t.2 2 = 8) <| jgd (jin (Int32.ofNat k + (1 : Int32)) (jZ t.2 2) = true) <| jgd (jK t.2 101 = 42) <| jb (cr t.2 101 (jI t.2 2 (Int32.ofNat k + (1 : Int32)).toNatClampNeg)) fun u => (if (lg_cmp t.1 u.1) = 0 then B u.2 2 32 101 (Int32.ofNat k + (6 : Int32)) else some (.inl ((0 : Int32), u.2)))) := by
  have hL : jK m 32 = 41 := hI.1.1.1.2.1.1.1
  have hM : jK m 101 = 42 := hI.2.1.1.1.1.1
  obtain ⟨v, s', h1, h2⟩ := hOK (jI m 2 (k + 1))
  dsimp only at h1 h2
  obtain ⟨m1, a1, a2, a3⟩ := h1 m hI.1
  have hy := jYA_g a3 hI.2.1
  obtain ⟨m2, b1, b2, b3⟩ := h2 m1 hy
  have hM1 : jK m1 101 = 42 := hy.1.1.1.1
  obtain ⟨c1, c2, -, c4, -⟩ := a3 2 (Or.inl rfl)
  refine ⟨m2, s', ?_, jInv_2 hI a3 a2 b2 b3⟩
  rw [show Int32.ofNat k + (1 : Int32) = Int32.ofNat (k + 1) from ji_add k 1, hI.2.2.2, jgd_t (show jin (Int32.ofNat (k + 1)) Z = true from ji_int (by omega) (by omega)), jgd_t hL, ji_n (show k + 1 < 2147483648 by omega), a1, jb_some]
  dsimp only
  rw [jgd_t (show jK m1 2 = 8 from c1.trans hI.2.2.1), show jZ m1 2 = Z from c2.trans hI.2.2.2, jgd_t (show jin (Int32.ofNat (k + 1)) Z = true from ji_int (by omega) (by omega)), jgd_t hM1, c4, b1, jb_some]
  dsimp only
  rw [if_pos (jc_eq0.mpr rfl)]
theorem jop2i {cx cr : jMe → Nat → Int32 → Int32 → Option (Int32 × jMe)} (hk : k + 6 ≤ Z) (hZ : Z ≤ 3072) (hI : jInv s Z m) (hOK : ∀ x1 x2 : Int32, jOK s (fun m => cx m 32 x1 x2) (fun m => cr m 101 x1 x2)) : jGo Z k B (jgd (jin (Int32.ofNat k + (1 : Int32)) (jZ m 2) = true) <| jgd (jin (Int32.ofNat k + (2 : Int32)) (jZ m 2) = true) <| jgd (jK m 32 = 41) <| jb (cx m 32 (jI m 2 (Int32.ofNat k + (1 : Int32)).toNatClampNeg) (jI m 2 (Int32.ofNat k + (2 : Int32)).toNatClampNeg)) fun t => jgd (jK t.2 2 = 8) <| jgd (jin (Int32.ofNat k + (1 : Int32)) (jZ t.2 2) = true) <| jgd (jin (Int32.ofNat k + (2 : Int32)) (jZ t.2 2) = true) <| jgd (jK t.2 101 = 42) <| jb (cr t.2 101 (jI t.2 2 (Int32.ofNat k + (1 : Int32)).toNatClampNeg) (jI t.2 2 (Int32.ofNat k + (2 : Int32)).toNatClampNeg)) fun u => (if t.1 = u.1 then B u.2 2 32 101 (Int32.ofNat k + (6 : Int32)) else some (.inl ((0 : Int32), u.2)))) := by
  have hL : jK m 32 = 41 := hI.1.1.1.2.1.1.1
  have hM : jK m 101 = 42 := hI.2.1.1.1.1.1
  obtain ⟨v, s', h1, h2⟩ := hOK (jI m 2 (k + 1)) (jI m 2 (k + 2))
  dsimp only at h1 h2
  obtain ⟨m1, a1, a2, a3⟩ := h1 m hI.1
  have hy := jYA_g a3 hI.2.1
  obtain ⟨m2, b1, b2, b3⟩ := h2 m1 hy
  have hM1 : jK m1 101 = 42 := hy.1.1.1.1
  obtain ⟨c1, c2, -, c4, -⟩ := a3 2 (Or.inl rfl)
  refine ⟨m2, s', ?_, jInv_2 hI a3 a2 b2 b3⟩
  rw [show Int32.ofNat k + (1 : Int32) = Int32.ofNat (k + 1) from ji_add k 1, show Int32.ofNat k + (2 : Int32) = Int32.ofNat (k + 2) from ji_add k 2, hI.2.2.2, jgd_t (show jin (Int32.ofNat (k + 1)) Z = true from ji_int (by omega) (by omega)), jgd_t (show jin (Int32.ofNat (k + 2)) Z = true from ji_int (by omega) (by omega)), jgd_t hL, ji_n (show k + 1 < 2147483648 by omega), ji_n (show k + 2 < 2147483648 by omega), a1, jb_some]
  dsimp only
  rw [jgd_t (show jK m1 2 = 8 from c1.trans hI.2.2.1), show jZ m1 2 = Z from c2.trans hI.2.2.2, jgd_t (show jin (Int32.ofNat (k + 1)) Z = true from ji_int (by omega) (by omega)), jgd_t (show jin (Int32.ofNat (k + 2)) Z = true from ji_int (by omega) (by omega)), jgd_t hM1, c4, b1, jb_some]
  dsimp only
  rw [if_pos (rfl)]
theorem jop2l {cx cr : jMe → Nat → Int32 → Int32 → Option (Int64 × jMe)} (hk : k + 6 ≤ Z) (hZ : Z ≤ 3072) (hI : jInv s Z m) (hOK : ∀ x1 x2 : Int32, jOK s (fun m => cx m 32 x1 x2) (fun m => cr m 101 x1 x2)) : jGo Z k B (jgd (jin (Int32.ofNat k + (1 : Int32)) (jZ m 2) = true) <| jgd (jin (Int32.ofNat k + (2 : Int32)) (jZ m 2) = true) <| jgd (jK m 32 = 41) <| jb (cx m 32 (jI m 2 (Int32.ofNat k + (1 : Int32)).toNatClampNeg) (jI m 2 (Int32.ofNat k + (2 : Int32)).toNatClampNeg)) fun t => jgd (jK t.2 2 = 8) <| jgd (jin (Int32.ofNat k + (1 : Int32)) (jZ t.2 2) = true) <| jgd (jin (Int32.ofNat k + (2 : Int32)) (jZ t.2 2) = true) <| jgd (jK t.2 101 = 42) <| jb (cr t.2 101 (jI t.2 2 (Int32.ofNat k + (1 : Int32)).toNatClampNeg) (jI t.2 2 (Int32.ofNat k + (2 : Int32)).toNatClampNeg)) fun u => (if (lg_cmp t.1 u.1) = 0 then B u.2 2 32 101 (Int32.ofNat k + (6 : Int32)) else some (.inl ((0 : Int32), u.2)))) := by
  have hL : jK m 32 = 41 := hI.1.1.1.2.1.1.1
  have hM : jK m 101 = 42 := hI.2.1.1.1.1.1
  obtain ⟨v, s', h1, h2⟩ := hOK (jI m 2 (k + 1)) (jI m 2 (k + 2))
  dsimp only at h1 h2
  obtain ⟨m1, a1, a2, a3⟩ := h1 m hI.1
  have hy := jYA_g a3 hI.2.1
  obtain ⟨m2, b1, b2, b3⟩ := h2 m1 hy
  have hM1 : jK m1 101 = 42 := hy.1.1.1.1
  obtain ⟨c1, c2, -, c4, -⟩ := a3 2 (Or.inl rfl)
  refine ⟨m2, s', ?_, jInv_2 hI a3 a2 b2 b3⟩
  rw [show Int32.ofNat k + (1 : Int32) = Int32.ofNat (k + 1) from ji_add k 1, show Int32.ofNat k + (2 : Int32) = Int32.ofNat (k + 2) from ji_add k 2, hI.2.2.2, jgd_t (show jin (Int32.ofNat (k + 1)) Z = true from ji_int (by omega) (by omega)), jgd_t (show jin (Int32.ofNat (k + 2)) Z = true from ji_int (by omega) (by omega)), jgd_t hL, ji_n (show k + 1 < 2147483648 by omega), ji_n (show k + 2 < 2147483648 by omega), a1, jb_some]
  dsimp only
  rw [jgd_t (show jK m1 2 = 8 from c1.trans hI.2.2.1), show jZ m1 2 = Z from c2.trans hI.2.2.2, jgd_t (show jin (Int32.ofNat (k + 1)) Z = true from ji_int (by omega) (by omega)), jgd_t (show jin (Int32.ofNat (k + 2)) Z = true from ji_int (by omega) (by omega)), jgd_t hM1, c4, b1, jb_some]
  dsimp only
  rw [if_pos (jc_eq0.mpr rfl)]
theorem jop3i {cx cr : jMe → Nat → Int32 → Int32 → Int32 → Option (Int32 × jMe)} (hk : k + 6 ≤ Z) (hZ : Z ≤ 3072) (hI : jInv s Z m) (hOK : ∀ x1 x2 x3 : Int32, jOK s (fun m => cx m 32 x1 x2 x3) (fun m => cr m 101 x1 x2 x3)) : jGo Z k B (jgd (jin (Int32.ofNat k + (1 : Int32)) (jZ m 2) = true) <| jgd (jin (Int32.ofNat k + (2 : Int32)) (jZ m 2) = true) <| jgd (jin (Int32.ofNat k + (3 : Int32)) (jZ m 2) = true) <| jgd (jK m 32 = 41) <| jb (cx m 32 (jI m 2 (Int32.ofNat k + (1 : Int32)).toNatClampNeg) (jI m 2 (Int32.ofNat k + (2 : Int32)).toNatClampNeg) (jI m 2 (Int32.ofNat k + (3 : Int32)).toNatClampNeg)) fun t => jgd (jK t.2 2 = 8) <| jgd (jin (Int32.ofNat k + (1 : Int32)) (jZ t.2 2) = true) <| jgd (jin (Int32.ofNat k + (2 : Int32)) (jZ t.2 2) = true) <| jgd (jin (Int32.ofNat k + (3 : Int32)) (jZ t.2 2) = true) <| jgd (jK t.2 101 = 42) <| jb (cr t.2 101 (jI t.2 2 (Int32.ofNat k + (1 : Int32)).toNatClampNeg) (jI t.2 2 (Int32.ofNat k + (2 : Int32)).toNatClampNeg) (jI t.2 2 (Int32.ofNat k + (3 : Int32)).toNatClampNeg)) fun u => (if t.1 = u.1 then B u.2 2 32 101 (Int32.ofNat k + (6 : Int32)) else some (.inl ((0 : Int32), u.2)))) := by
  have hL : jK m 32 = 41 := hI.1.1.1.2.1.1.1
  have hM : jK m 101 = 42 := hI.2.1.1.1.1.1
  obtain ⟨v, s', h1, h2⟩ := hOK (jI m 2 (k + 1)) (jI m 2 (k + 2)) (jI m 2 (k + 3))
  dsimp only at h1 h2
  obtain ⟨m1, a1, a2, a3⟩ := h1 m hI.1
  have hy := jYA_g a3 hI.2.1
  obtain ⟨m2, b1, b2, b3⟩ := h2 m1 hy
  have hM1 : jK m1 101 = 42 := hy.1.1.1.1
  obtain ⟨c1, c2, -, c4, -⟩ := a3 2 (Or.inl rfl)
  refine ⟨m2, s', ?_, jInv_2 hI a3 a2 b2 b3⟩
  rw [show Int32.ofNat k + (1 : Int32) = Int32.ofNat (k + 1) from ji_add k 1, show Int32.ofNat k + (2 : Int32) = Int32.ofNat (k + 2) from ji_add k 2, show Int32.ofNat k + (3 : Int32) = Int32.ofNat (k + 3) from ji_add k 3, hI.2.2.2, jgd_t (show jin (Int32.ofNat (k + 1)) Z = true from ji_int (by omega) (by omega)), jgd_t (show jin (Int32.ofNat (k + 2)) Z = true from ji_int (by omega) (by omega)), jgd_t (show jin (Int32.ofNat (k + 3)) Z = true from ji_int (by omega) (by omega)), jgd_t hL, ji_n (show k + 1 < 2147483648 by omega), ji_n (show k + 2 < 2147483648 by omega), ji_n (show k + 3 < 2147483648 by omega), a1, jb_some]
  dsimp only
  rw [jgd_t (show jK m1 2 = 8 from c1.trans hI.2.2.1), show jZ m1 2 = Z from c2.trans hI.2.2.2, jgd_t (show jin (Int32.ofNat (k + 1)) Z = true from ji_int (by omega) (by omega)), jgd_t (show jin (Int32.ofNat (k + 2)) Z = true from ji_int (by omega) (by omega)), jgd_t (show jin (Int32.ofNat (k + 3)) Z = true from ji_int (by omega) (by omega)), jgd_t hM1, c4, b1, jb_some]
  dsimp only
  rw [if_pos (rfl)]
theorem jop3l {cx cr : jMe → Nat → Int32 → Int32 → Int32 → Option (Int64 × jMe)} (hk : k + 6 ≤ Z) (hZ : Z ≤ 3072) (hI : jInv s Z m) (hOK : ∀ x1 x2 x3 : Int32, jOK s (fun m => cx m 32 x1 x2 x3) (fun m => cr m 101 x1 x2 x3)) : jGo Z k B (jgd (jin (Int32.ofNat k + (1 : Int32)) (jZ m 2) = true) <| jgd (jin (Int32.ofNat k + (2 : Int32)) (jZ m 2) = true) <| jgd (jin (Int32.ofNat k + (3 : Int32)) (jZ m 2) = true) <| jgd (jK m 32 = 41) <| jb (cx m 32 (jI m 2 (Int32.ofNat k + (1 : Int32)).toNatClampNeg) (jI m 2 (Int32.ofNat k + (2 : Int32)).toNatClampNeg) (jI m 2 (Int32.ofNat k + (3 : Int32)).toNatClampNeg)) fun t => jgd (jK t.2 2 = 8) <| jgd (jin (Int32.ofNat k + (1 : Int32)) (jZ t.2 2) = true) <| jgd (jin (Int32.ofNat k + (2 : Int32)) (jZ t.2 2) = true) <| jgd (jin (Int32.ofNat k + (3 : Int32)) (jZ t.2 2) = true) <| jgd (jK t.2 101 = 42) <| jb (cr t.2 101 (jI t.2 2 (Int32.ofNat k + (1 : Int32)).toNatClampNeg) (jI t.2 2 (Int32.ofNat k + (2 : Int32)).toNatClampNeg) (jI t.2 2 (Int32.ofNat k + (3 : Int32)).toNatClampNeg)) fun u => (if (lg_cmp t.1 u.1) = 0 then B u.2 2 32 101 (Int32.ofNat k + (6 : Int32)) else some (.inl ((0 : Int32), u.2)))) := by
  have hL : jK m 32 = 41 := hI.1.1.1.2.1.1.1
  have hM : jK m 101 = 42 := hI.2.1.1.1.1.1
  obtain ⟨v, s', h1, h2⟩ := hOK (jI m 2 (k + 1)) (jI m 2 (k + 2)) (jI m 2 (k + 3))
  dsimp only at h1 h2
  obtain ⟨m1, a1, a2, a3⟩ := h1 m hI.1
  have hy := jYA_g a3 hI.2.1
  obtain ⟨m2, b1, b2, b3⟩ := h2 m1 hy
  have hM1 : jK m1 101 = 42 := hy.1.1.1.1
  obtain ⟨c1, c2, -, c4, -⟩ := a3 2 (Or.inl rfl)
  refine ⟨m2, s', ?_, jInv_2 hI a3 a2 b2 b3⟩
  rw [show Int32.ofNat k + (1 : Int32) = Int32.ofNat (k + 1) from ji_add k 1, show Int32.ofNat k + (2 : Int32) = Int32.ofNat (k + 2) from ji_add k 2, show Int32.ofNat k + (3 : Int32) = Int32.ofNat (k + 3) from ji_add k 3, hI.2.2.2, jgd_t (show jin (Int32.ofNat (k + 1)) Z = true from ji_int (by omega) (by omega)), jgd_t (show jin (Int32.ofNat (k + 2)) Z = true from ji_int (by omega) (by omega)), jgd_t (show jin (Int32.ofNat (k + 3)) Z = true from ji_int (by omega) (by omega)), jgd_t hL, ji_n (show k + 1 < 2147483648 by omega), ji_n (show k + 2 < 2147483648 by omega), ji_n (show k + 3 < 2147483648 by omega), a1, jb_some]
  dsimp only
  rw [jgd_t (show jK m1 2 = 8 from c1.trans hI.2.2.1), show jZ m1 2 = Z from c2.trans hI.2.2.2, jgd_t (show jin (Int32.ofNat (k + 1)) Z = true from ji_int (by omega) (by omega)), jgd_t (show jin (Int32.ofNat (k + 2)) Z = true from ji_int (by omega) (by omega)), jgd_t (show jin (Int32.ofNat (k + 3)) Z = true from ji_int (by omega) (by omega)), jgd_t hM1, c4, b1, jb_some]
  dsimp only
  rw [if_pos (jc_eq0.mpr rfl)]
theorem jop4i {cx cr : jMe → Nat → Int32 → Int32 → Int32 → Int32 → Option (Int32 × jMe)} (hk : k + 6 ≤ Z) (hZ : Z ≤ 3072) (hI : jInv s Z m) (hOK : ∀ x1 x2 x3 x4 : Int32, jOK s (fun m => cx m 32 x1 x2 x3 x4) (fun m => cr m 101 x1 x2 x3 x4)) : jGo Z k B (jgd (jin (Int32.ofNat k + (1 : Int32)) (jZ m 2) = true) <| jgd (jin (Int32.ofNat k + (2 : Int32)) (jZ m 2) = true) <| jgd (jin (Int32.ofNat k + (3 : Int32)) (jZ m 2) = true) <| jgd (jin (Int32.ofNat k + (4 : Int32)) (jZ m 2) = true) <| jgd (jK m 32 = 41) <| jb (cx m 32 (jI m 2 (Int32.ofNat k + (1 : Int32)).toNatClampNeg) (jI m 2 (Int32.ofNat k + (2 : Int32)).toNatClampNeg) (jI m 2 (Int32.ofNat k + (3 : Int32)).toNatClampNeg) (jI m 2 (Int32.ofNat k + (4 : Int32)).toNatClampNeg)) fun t => jgd (jK t.2 2 = 8) <| jgd (jin (Int32.ofNat k + (1 : Int32)) (jZ t.2 2) = true) <| jgd (jin (Int32.ofNat k + (2 : Int32)) (jZ t.2 2) = true) <| jgd (jin (Int32.ofNat k + (3 : Int32)) (jZ t.2 2) = true) <| jgd (jin (Int32.ofNat k + (4 : Int32)) (jZ t.2 2) = true) <| jgd (jK t.2 101 = 42) <| jb (cr t.2 101 (jI t.2 2 (Int32.ofNat k + (1 : Int32)).toNatClampNeg) (jI t.2 2 (Int32.ofNat k + (2 : Int32)).toNatClampNeg) (jI t.2 2 (Int32.ofNat k + (3 : Int32)).toNatClampNeg) (jI t.2 2 (Int32.ofNat k + (4 : Int32)).toNatClampNeg)) fun u => (if t.1 = u.1 then B u.2 2 32 101 (Int32.ofNat k + (6 : Int32)) else some (.inl ((0 : Int32), u.2)))) := by
  have hL : jK m 32 = 41 := hI.1.1.1.2.1.1.1
  have hM : jK m 101 = 42 := hI.2.1.1.1.1.1
  obtain ⟨v, s', h1, h2⟩ := hOK (jI m 2 (k + 1)) (jI m 2 (k + 2)) (jI m 2 (k + 3)) (jI m 2 (k + 4))
  dsimp only at h1 h2
  obtain ⟨m1, a1, a2, a3⟩ := h1 m hI.1
  have hy := jYA_g a3 hI.2.1
  obtain ⟨m2, b1, b2, b3⟩ := h2 m1 hy
  have hM1 : jK m1 101 = 42 := hy.1.1.1.1
  obtain ⟨c1, c2, -, c4, -⟩ := a3 2 (Or.inl rfl)
  refine ⟨m2, s', ?_, jInv_2 hI a3 a2 b2 b3⟩
  rw [show Int32.ofNat k + (1 : Int32) = Int32.ofNat (k + 1) from ji_add k 1, show Int32.ofNat k + (2 : Int32) = Int32.ofNat (k + 2) from ji_add k 2, show Int32.ofNat k + (3 : Int32) = Int32.ofNat (k + 3) from ji_add k 3, show Int32.ofNat k + (4 : Int32) = Int32.ofNat (k + 4) from ji_add k 4, hI.2.2.2, jgd_t (show jin (Int32.ofNat (k + 1)) Z = true from ji_int (by omega) (by omega)), jgd_t (show jin (Int32.ofNat (k + 2)) Z = true from ji_int (by omega) (by omega)), jgd_t (show jin (Int32.ofNat (k + 3)) Z = true from ji_int (by omega) (by omega)), jgd_t (show jin (Int32.ofNat (k + 4)) Z = true from ji_int (by omega) (by omega)), jgd_t hL, ji_n (show k + 1 < 2147483648 by omega), ji_n (show k + 2 < 2147483648 by omega), ji_n (show k + 3 < 2147483648 by omega), ji_n (show k + 4 < 2147483648 by omega), a1, jb_some]
  dsimp only
  rw [jgd_t (show jK m1 2 = 8 from c1.trans hI.2.2.1), show jZ m1 2 = Z from c2.trans hI.2.2.2, jgd_t (show jin (Int32.ofNat (k + 1)) Z = true from ji_int (by omega) (by omega)), jgd_t (show jin (Int32.ofNat (k + 2)) Z = true from ji_int (by omega) (by omega)), jgd_t (show jin (Int32.ofNat (k + 3)) Z = true from ji_int (by omega) (by omega)), jgd_t (show jin (Int32.ofNat (k + 4)) Z = true from ji_int (by omega) (by omega)), jgd_t hM1, c4, b1, jb_some]
  dsimp only
  rw [if_pos (rfl)]
theorem jop4l {cx cr : jMe → Nat → Int32 → Int32 → Int32 → Int32 → Option (Int64 × jMe)} (hk : k + 6 ≤ Z) (hZ : Z ≤ 3072) (hI : jInv s Z m) (hOK : ∀ x1 x2 x3 x4 : Int32, jOK s (fun m => cx m 32 x1 x2 x3 x4) (fun m => cr m 101 x1 x2 x3 x4)) : jGo Z k B (jgd (jin (Int32.ofNat k + (1 : Int32)) (jZ m 2) = true) <| jgd (jin (Int32.ofNat k + (2 : Int32)) (jZ m 2) = true) <| jgd (jin (Int32.ofNat k + (3 : Int32)) (jZ m 2) = true) <| jgd (jin (Int32.ofNat k + (4 : Int32)) (jZ m 2) = true) <| jgd (jK m 32 = 41) <| jb (cx m 32 (jI m 2 (Int32.ofNat k + (1 : Int32)).toNatClampNeg) (jI m 2 (Int32.ofNat k + (2 : Int32)).toNatClampNeg) (jI m 2 (Int32.ofNat k + (3 : Int32)).toNatClampNeg) (jI m 2 (Int32.ofNat k + (4 : Int32)).toNatClampNeg)) fun t => jgd (jK t.2 2 = 8) <| jgd (jin (Int32.ofNat k + (1 : Int32)) (jZ t.2 2) = true) <| jgd (jin (Int32.ofNat k + (2 : Int32)) (jZ t.2 2) = true) <| jgd (jin (Int32.ofNat k + (3 : Int32)) (jZ t.2 2) = true) <| jgd (jin (Int32.ofNat k + (4 : Int32)) (jZ t.2 2) = true) <| jgd (jK t.2 101 = 42) <| jb (cr t.2 101 (jI t.2 2 (Int32.ofNat k + (1 : Int32)).toNatClampNeg) (jI t.2 2 (Int32.ofNat k + (2 : Int32)).toNatClampNeg) (jI t.2 2 (Int32.ofNat k + (3 : Int32)).toNatClampNeg) (jI t.2 2 (Int32.ofNat k + (4 : Int32)).toNatClampNeg)) fun u => (if (lg_cmp t.1 u.1) = 0 then B u.2 2 32 101 (Int32.ofNat k + (6 : Int32)) else some (.inl ((0 : Int32), u.2)))) := by
  have hL : jK m 32 = 41 := hI.1.1.1.2.1.1.1
  have hM : jK m 101 = 42 := hI.2.1.1.1.1.1
  obtain ⟨v, s', h1, h2⟩ := hOK (jI m 2 (k + 1)) (jI m 2 (k + 2)) (jI m 2 (k + 3)) (jI m 2 (k + 4))
  dsimp only at h1 h2
  obtain ⟨m1, a1, a2, a3⟩ := h1 m hI.1
  have hy := jYA_g a3 hI.2.1
  obtain ⟨m2, b1, b2, b3⟩ := h2 m1 hy
  have hM1 : jK m1 101 = 42 := hy.1.1.1.1
  obtain ⟨c1, c2, -, c4, -⟩ := a3 2 (Or.inl rfl)
  refine ⟨m2, s', ?_, jInv_2 hI a3 a2 b2 b3⟩
  rw [show Int32.ofNat k + (1 : Int32) = Int32.ofNat (k + 1) from ji_add k 1, show Int32.ofNat k + (2 : Int32) = Int32.ofNat (k + 2) from ji_add k 2, show Int32.ofNat k + (3 : Int32) = Int32.ofNat (k + 3) from ji_add k 3, show Int32.ofNat k + (4 : Int32) = Int32.ofNat (k + 4) from ji_add k 4, hI.2.2.2, jgd_t (show jin (Int32.ofNat (k + 1)) Z = true from ji_int (by omega) (by omega)), jgd_t (show jin (Int32.ofNat (k + 2)) Z = true from ji_int (by omega) (by omega)), jgd_t (show jin (Int32.ofNat (k + 3)) Z = true from ji_int (by omega) (by omega)), jgd_t (show jin (Int32.ofNat (k + 4)) Z = true from ji_int (by omega) (by omega)), jgd_t hL, ji_n (show k + 1 < 2147483648 by omega), ji_n (show k + 2 < 2147483648 by omega), ji_n (show k + 3 < 2147483648 by omega), ji_n (show k + 4 < 2147483648 by omega), a1, jb_some]
  dsimp only
  rw [jgd_t (show jK m1 2 = 8 from c1.trans hI.2.2.1), show jZ m1 2 = Z from c2.trans hI.2.2.2, jgd_t (show jin (Int32.ofNat (k + 1)) Z = true from ji_int (by omega) (by omega)), jgd_t (show jin (Int32.ofNat (k + 2)) Z = true from ji_int (by omega) (by omega)), jgd_t (show jin (Int32.ofNat (k + 3)) Z = true from ji_int (by omega) (by omega)), jgd_t (show jin (Int32.ofNat (k + 4)) Z = true from ji_int (by omega) (by omega)), jgd_t hM1, c4, b1, jb_some]
  dsimp only
  rw [if_pos (jc_eq0.mpr rfl)]
theorem jop5i {cx cr : jMe → Nat → Int32 → Int32 → Int32 → Int32 → Int32 → Option (Int32 × jMe)} (hk : k + 6 ≤ Z) (hZ : Z ≤ 3072) (hI : jInv s Z m) (hOK : ∀ x1 x2 x3 x4 x5 : Int32, jOK s (fun m => cx m 32 x1 x2 x3 x4 x5) (fun m => cr m 101 x1 x2 x3 x4 x5)) : jGo Z k B (jgd (jin (Int32.ofNat k + (1 : Int32)) (jZ m 2) = true) <| jgd (jin (Int32.ofNat k + (2 : Int32)) (jZ m 2) = true) <| jgd (jin (Int32.ofNat k + (3 : Int32)) (jZ m 2) = true) <| jgd (jin (Int32.ofNat k + (4 : Int32)) (jZ m 2) = true) <| jgd (jin (Int32.ofNat k + (5 : Int32)) (jZ m 2) = true) <| jgd (jK m 32 = 41) <| jb (cx m 32 (jI m 2 (Int32.ofNat k + (1 : Int32)).toNatClampNeg) (jI m 2 (Int32.ofNat k + (2 : Int32)).toNatClampNeg) (jI m 2 (Int32.ofNat k + (3 : Int32)).toNatClampNeg) (jI m 2 (Int32.ofNat k + (4 : Int32)).toNatClampNeg) (jI m 2 (Int32.ofNat k + (5 : Int32)).toNatClampNeg)) fun t => jgd (jK t.2 2 = 8) <| jgd (jin (Int32.ofNat k + (1 : Int32)) (jZ t.2 2) = true) <| jgd (jin (Int32.ofNat k + (2 : Int32)) (jZ t.2 2) = true) <| jgd (jin (Int32.ofNat k + (3 : Int32)) (jZ t.2 2) = true) <| jgd (jin (Int32.ofNat k + (4 : Int32)) (jZ t.2 2) = true) <| jgd (jin (Int32.ofNat k + (5 : Int32)) (jZ t.2 2) = true) <| jgd (jK t.2 101 = 42) <| jb (cr t.2 101 (jI t.2 2 (Int32.ofNat k + (1 : Int32)).toNatClampNeg) (jI t.2 2 (Int32.ofNat k + (2 : Int32)).toNatClampNeg) (jI t.2 2 (Int32.ofNat k + (3 : Int32)).toNatClampNeg) (jI t.2 2 (Int32.ofNat k + (4 : Int32)).toNatClampNeg) (jI t.2 2 (Int32.ofNat k + (5 : Int32)).toNatClampNeg)) fun u => (if t.1 = u.1 then B u.2 2 32 101 (Int32.ofNat k + (6 : Int32)) else some (.inl ((0 : Int32), u.2)))) := by
  have hL : jK m 32 = 41 := hI.1.1.1.2.1.1.1
  have hM : jK m 101 = 42 := hI.2.1.1.1.1.1
  obtain ⟨v, s', h1, h2⟩ := hOK (jI m 2 (k + 1)) (jI m 2 (k + 2)) (jI m 2 (k + 3)) (jI m 2 (k + 4)) (jI m 2 (k + 5))
  dsimp only at h1 h2
  obtain ⟨m1, a1, a2, a3⟩ := h1 m hI.1
  have hy := jYA_g a3 hI.2.1
  obtain ⟨m2, b1, b2, b3⟩ := h2 m1 hy
  have hM1 : jK m1 101 = 42 := hy.1.1.1.1
  obtain ⟨c1, c2, -, c4, -⟩ := a3 2 (Or.inl rfl)
  refine ⟨m2, s', ?_, jInv_2 hI a3 a2 b2 b3⟩
  rw [show Int32.ofNat k + (1 : Int32) = Int32.ofNat (k + 1) from ji_add k 1, show Int32.ofNat k + (2 : Int32) = Int32.ofNat (k + 2) from ji_add k 2, show Int32.ofNat k + (3 : Int32) = Int32.ofNat (k + 3) from ji_add k 3, show Int32.ofNat k + (4 : Int32) = Int32.ofNat (k + 4) from ji_add k 4, show Int32.ofNat k + (5 : Int32) = Int32.ofNat (k + 5) from ji_add k 5, hI.2.2.2, jgd_t (show jin (Int32.ofNat (k + 1)) Z = true from ji_int (by omega) (by omega)), jgd_t (show jin (Int32.ofNat (k + 2)) Z = true from ji_int (by omega) (by omega)), jgd_t (show jin (Int32.ofNat (k + 3)) Z = true from ji_int (by omega) (by omega)), jgd_t (show jin (Int32.ofNat (k + 4)) Z = true from ji_int (by omega) (by omega)), jgd_t (show jin (Int32.ofNat (k + 5)) Z = true from ji_int (by omega) (by omega)), jgd_t hL, ji_n (show k + 1 < 2147483648 by omega), ji_n (show k + 2 < 2147483648 by omega), ji_n (show k + 3 < 2147483648 by omega), ji_n (show k + 4 < 2147483648 by omega), ji_n (show k + 5 < 2147483648 by omega), a1, jb_some]
  dsimp only
  rw [jgd_t (show jK m1 2 = 8 from c1.trans hI.2.2.1), show jZ m1 2 = Z from c2.trans hI.2.2.2, jgd_t (show jin (Int32.ofNat (k + 1)) Z = true from ji_int (by omega) (by omega)), jgd_t (show jin (Int32.ofNat (k + 2)) Z = true from ji_int (by omega) (by omega)), jgd_t (show jin (Int32.ofNat (k + 3)) Z = true from ji_int (by omega) (by omega)), jgd_t (show jin (Int32.ofNat (k + 4)) Z = true from ji_int (by omega) (by omega)), jgd_t (show jin (Int32.ofNat (k + 5)) Z = true from ji_int (by omega) (by omega)), jgd_t hM1, c4, b1, jb_some]
  dsimp only
  rw [if_pos (rfl)]
theorem jop5l {cx cr : jMe → Nat → Int32 → Int32 → Int32 → Int32 → Int32 → Option (Int64 × jMe)} (hk : k + 6 ≤ Z) (hZ : Z ≤ 3072) (hI : jInv s Z m) (hOK : ∀ x1 x2 x3 x4 x5 : Int32, jOK s (fun m => cx m 32 x1 x2 x3 x4 x5) (fun m => cr m 101 x1 x2 x3 x4 x5)) : jGo Z k B (jgd (jin (Int32.ofNat k + (1 : Int32)) (jZ m 2) = true) <| jgd (jin (Int32.ofNat k + (2 : Int32)) (jZ m 2) = true) <| jgd (jin (Int32.ofNat k + (3 : Int32)) (jZ m 2) = true) <| jgd (jin (Int32.ofNat k + (4 : Int32)) (jZ m 2) = true) <| jgd (jin (Int32.ofNat k + (5 : Int32)) (jZ m 2) = true) <| jgd (jK m 32 = 41) <| jb (cx m 32 (jI m 2 (Int32.ofNat k + (1 : Int32)).toNatClampNeg) (jI m 2 (Int32.ofNat k + (2 : Int32)).toNatClampNeg) (jI m 2 (Int32.ofNat k + (3 : Int32)).toNatClampNeg) (jI m 2 (Int32.ofNat k + (4 : Int32)).toNatClampNeg) (jI m 2 (Int32.ofNat k + (5 : Int32)).toNatClampNeg)) fun t => jgd (jK t.2 2 = 8) <| jgd (jin (Int32.ofNat k + (1 : Int32)) (jZ t.2 2) = true) <| jgd (jin (Int32.ofNat k + (2 : Int32)) (jZ t.2 2) = true) <| jgd (jin (Int32.ofNat k + (3 : Int32)) (jZ t.2 2) = true) <| jgd (jin (Int32.ofNat k + (4 : Int32)) (jZ t.2 2) = true) <| jgd (jin (Int32.ofNat k + (5 : Int32)) (jZ t.2 2) = true) <| jgd (jK t.2 101 = 42) <| jb (cr t.2 101 (jI t.2 2 (Int32.ofNat k + (1 : Int32)).toNatClampNeg) (jI t.2 2 (Int32.ofNat k + (2 : Int32)).toNatClampNeg) (jI t.2 2 (Int32.ofNat k + (3 : Int32)).toNatClampNeg) (jI t.2 2 (Int32.ofNat k + (4 : Int32)).toNatClampNeg) (jI t.2 2 (Int32.ofNat k + (5 : Int32)).toNatClampNeg)) fun u => (if (lg_cmp t.1 u.1) = 0 then B u.2 2 32 101 (Int32.ofNat k + (6 : Int32)) else some (.inl ((0 : Int32), u.2)))) := by
  have hL : jK m 32 = 41 := hI.1.1.1.2.1.1.1
  have hM : jK m 101 = 42 := hI.2.1.1.1.1.1
  obtain ⟨v, s', h1, h2⟩ := hOK (jI m 2 (k + 1)) (jI m 2 (k + 2)) (jI m 2 (k + 3)) (jI m 2 (k + 4)) (jI m 2 (k + 5))
  dsimp only at h1 h2
  obtain ⟨m1, a1, a2, a3⟩ := h1 m hI.1
  have hy := jYA_g a3 hI.2.1
  obtain ⟨m2, b1, b2, b3⟩ := h2 m1 hy
  have hM1 : jK m1 101 = 42 := hy.1.1.1.1
  obtain ⟨c1, c2, -, c4, -⟩ := a3 2 (Or.inl rfl)
  refine ⟨m2, s', ?_, jInv_2 hI a3 a2 b2 b3⟩
  rw [show Int32.ofNat k + (1 : Int32) = Int32.ofNat (k + 1) from ji_add k 1, show Int32.ofNat k + (2 : Int32) = Int32.ofNat (k + 2) from ji_add k 2, show Int32.ofNat k + (3 : Int32) = Int32.ofNat (k + 3) from ji_add k 3, show Int32.ofNat k + (4 : Int32) = Int32.ofNat (k + 4) from ji_add k 4, show Int32.ofNat k + (5 : Int32) = Int32.ofNat (k + 5) from ji_add k 5, hI.2.2.2, jgd_t (show jin (Int32.ofNat (k + 1)) Z = true from ji_int (by omega) (by omega)), jgd_t (show jin (Int32.ofNat (k + 2)) Z = true from ji_int (by omega) (by omega)), jgd_t (show jin (Int32.ofNat (k + 3)) Z = true from ji_int (by omega) (by omega)), jgd_t (show jin (Int32.ofNat (k + 4)) Z = true from ji_int (by omega) (by omega)), jgd_t (show jin (Int32.ofNat (k + 5)) Z = true from ji_int (by omega) (by omega)), jgd_t hL, ji_n (show k + 1 < 2147483648 by omega), ji_n (show k + 2 < 2147483648 by omega), ji_n (show k + 3 < 2147483648 by omega), ji_n (show k + 4 < 2147483648 by omega), ji_n (show k + 5 < 2147483648 by omega), a1, jb_some]
  dsimp only
  rw [jgd_t (show jK m1 2 = 8 from c1.trans hI.2.2.1), show jZ m1 2 = Z from c2.trans hI.2.2.2, jgd_t (show jin (Int32.ofNat (k + 1)) Z = true from ji_int (by omega) (by omega)), jgd_t (show jin (Int32.ofNat (k + 2)) Z = true from ji_int (by omega) (by omega)), jgd_t (show jin (Int32.ofNat (k + 3)) Z = true from ji_int (by omega) (by omega)), jgd_t (show jin (Int32.ofNat (k + 4)) Z = true from ji_int (by omega) (by omega)), jgd_t (show jin (Int32.ofNat (k + 5)) Z = true from ji_int (by omega) (by omega)), jgd_t hM1, c4, b1, jb_some]
  dsimp only
  rw [if_pos (jc_eq0.mpr rfl)]
theorem jop1ip {cx cr : jMe → Nat → Int32 → Option Int32} (hk : k + 6 ≤ Z) (hZ : Z ≤ 3072) (hI : jInv s Z m) (hOK : ∀ x1 : Int32, jOKp s (fun m => cx m 32 x1) (fun m => cr m 101 x1)) : jGo Z k B (jgd (jin (Int32.ofNat k + (1 : Int32)) (jZ m 2) = true) <| jgd (jK m 32 = 41) <| jb (cx m 32 (jI m 2 (Int32.ofNat k + (1 : Int32)).toNatClampNeg)) fun t => jgd (jin (Int32.ofNat k + (1 : Int32)) (jZ m 2) = true) <| jgd (jK m 101 = 42) <| jb (cr m 101 (jI m 2 (Int32.ofNat k + (1 : Int32)).toNatClampNeg)) fun u => (if t = u then B m 2 32 101 (Int32.ofNat k + (6 : Int32)) else some (.inl ((0 : Int32), m)))) := by
  have hL : jK m 32 = 41 := hI.1.1.1.2.1.1.1
  have hM : jK m 101 = 42 := hI.2.1.1.1.1.1
  obtain ⟨v, h1, h2⟩ := hOK (jI m 2 (k + 1))
  dsimp only at h1 h2
  have a1 := h1 m hI.1
  have b1 := h2 m hI.2.1
  refine ⟨m, s, ?_, hI⟩
  rw [show Int32.ofNat k + (1 : Int32) = Int32.ofNat (k + 1) from ji_add k 1, hI.2.2.2, jgd_t (show jin (Int32.ofNat (k + 1)) Z = true from ji_int (by omega) (by omega)), jgd_t hL, ji_n (show k + 1 < 2147483648 by omega), a1, jb_some, jgd_t (show jin (Int32.ofNat (k + 1)) Z = true from ji_int (by omega) (by omega)), jgd_t hM, b1, jb_some, if_pos (rfl)]
theorem jop2ip {cx cr : jMe → Nat → Int32 → Int32 → Option Int32} (hk : k + 6 ≤ Z) (hZ : Z ≤ 3072) (hI : jInv s Z m) (hOK : ∀ x1 x2 : Int32, jOKp s (fun m => cx m 32 x1 x2) (fun m => cr m 101 x1 x2)) : jGo Z k B (jgd (jin (Int32.ofNat k + (1 : Int32)) (jZ m 2) = true) <| jgd (jin (Int32.ofNat k + (2 : Int32)) (jZ m 2) = true) <| jgd (jK m 32 = 41) <| jb (cx m 32 (jI m 2 (Int32.ofNat k + (1 : Int32)).toNatClampNeg) (jI m 2 (Int32.ofNat k + (2 : Int32)).toNatClampNeg)) fun t => jgd (jin (Int32.ofNat k + (1 : Int32)) (jZ m 2) = true) <| jgd (jin (Int32.ofNat k + (2 : Int32)) (jZ m 2) = true) <| jgd (jK m 101 = 42) <| jb (cr m 101 (jI m 2 (Int32.ofNat k + (1 : Int32)).toNatClampNeg) (jI m 2 (Int32.ofNat k + (2 : Int32)).toNatClampNeg)) fun u => (if t = u then B m 2 32 101 (Int32.ofNat k + (6 : Int32)) else some (.inl ((0 : Int32), m)))) := by
  have hL : jK m 32 = 41 := hI.1.1.1.2.1.1.1
  have hM : jK m 101 = 42 := hI.2.1.1.1.1.1
  obtain ⟨v, h1, h2⟩ := hOK (jI m 2 (k + 1)) (jI m 2 (k + 2))
  dsimp only at h1 h2
  have a1 := h1 m hI.1
  have b1 := h2 m hI.2.1
  refine ⟨m, s, ?_, hI⟩
  rw [show Int32.ofNat k + (1 : Int32) = Int32.ofNat (k + 1) from ji_add k 1, show Int32.ofNat k + (2 : Int32) = Int32.ofNat (k + 2) from ji_add k 2, hI.2.2.2, jgd_t (show jin (Int32.ofNat (k + 1)) Z = true from ji_int (by omega) (by omega)), jgd_t (show jin (Int32.ofNat (k + 2)) Z = true from ji_int (by omega) (by omega)), jgd_t hL, ji_n (show k + 1 < 2147483648 by omega), ji_n (show k + 2 < 2147483648 by omega), a1, jb_some, jgd_t (show jin (Int32.ofNat (k + 1)) Z = true from ji_int (by omega) (by omega)), jgd_t (show jin (Int32.ofNat (k + 2)) Z = true from ji_int (by omega) (by omega)), jgd_t hM, b1, jb_some, if_pos (rfl)]
theorem jop2lp {cx cr : jMe → Nat → Int32 → Int32 → Option Int64} (hk : k + 6 ≤ Z) (hZ : Z ≤ 3072) (hI : jInv s Z m) (hOK : ∀ x1 x2 : Int32, jOKp s (fun m => cx m 32 x1 x2) (fun m => cr m 101 x1 x2)) : jGo Z k B (jgd (jin (Int32.ofNat k + (1 : Int32)) (jZ m 2) = true) <| jgd (jin (Int32.ofNat k + (2 : Int32)) (jZ m 2) = true) <| jgd (jK m 32 = 41) <| jb (cx m 32 (jI m 2 (Int32.ofNat k + (1 : Int32)).toNatClampNeg) (jI m 2 (Int32.ofNat k + (2 : Int32)).toNatClampNeg)) fun t => jgd (jin (Int32.ofNat k + (1 : Int32)) (jZ m 2) = true) <| jgd (jin (Int32.ofNat k + (2 : Int32)) (jZ m 2) = true) <| jgd (jK m 101 = 42) <| jb (cr m 101 (jI m 2 (Int32.ofNat k + (1 : Int32)).toNatClampNeg) (jI m 2 (Int32.ofNat k + (2 : Int32)).toNatClampNeg)) fun u => (if (lg_cmp t u) = 0 then B m 2 32 101 (Int32.ofNat k + (6 : Int32)) else some (.inl ((0 : Int32), m)))) := by
  have hL : jK m 32 = 41 := hI.1.1.1.2.1.1.1
  have hM : jK m 101 = 42 := hI.2.1.1.1.1.1
  obtain ⟨v, h1, h2⟩ := hOK (jI m 2 (k + 1)) (jI m 2 (k + 2))
  dsimp only at h1 h2
  have a1 := h1 m hI.1
  have b1 := h2 m hI.2.1
  refine ⟨m, s, ?_, hI⟩
  rw [show Int32.ofNat k + (1 : Int32) = Int32.ofNat (k + 1) from ji_add k 1, show Int32.ofNat k + (2 : Int32) = Int32.ofNat (k + 2) from ji_add k 2, hI.2.2.2, jgd_t (show jin (Int32.ofNat (k + 1)) Z = true from ji_int (by omega) (by omega)), jgd_t (show jin (Int32.ofNat (k + 2)) Z = true from ji_int (by omega) (by omega)), jgd_t hL, ji_n (show k + 1 < 2147483648 by omega), ji_n (show k + 2 < 2147483648 by omega), a1, jb_some, jgd_t (show jin (Int32.ofNat (k + 1)) Z = true from ji_int (by omega) (by omega)), jgd_t (show jin (Int32.ofNat (k + 2)) Z = true from ji_int (by omega) (by omega)), jgd_t hM, b1, jb_some, if_pos (jc_eq0.mpr rfl)]
end PAIRS
