/-! the law's loop, whole -/
theorem jlow6 {Z : Nat} (h : Z < 6) : Int32.ofNat Z - (6 : Int32) < 0 := by
  have : ∀ z : Fin 6, Int32.ofNat z.1 - (6 : Int32) < 0 := by decide +kernel
  exact this ⟨Z, h⟩
theorem jlaw_l18 {F Z : Nat} (hF : 5000 < F) (hZ : Z ≤ 3072) : ∀ (t k f : Nat) (s : jS6) (m : jMe), Z ≤ k + 6 * t + 5 → k ≤ Z + 6 → t < f → jInv s Z m → ∃ m' s', c_L_law_l18 F f m 2 32 101 (Int32.ofNat k) = some (.inr m') ∧ jInv s' Z m' := by
  intro t
  induction t with
  | zero =>
    intro k f s m h1 h2 h3 hI
    obtain ⟨f, rfl⟩ := jsucc h3
    refine ⟨m, s, ?_, hI⟩
    show c_L_law_l18_b F _ m _ _ _ _ = _
    unfold c_L_law_l18_b
    have h6 : (Int32.ofNat (jZ m 2)) - (6 : Int32) < Int32.ofNat k := by
      rw [hI.2.2.2]
      by_cases e : 6 ≤ Z
      · rw [show Int32.ofNat Z - (6 : Int32) = Int32.ofNat (Z - 6) from ji_sub (b := 6) e]
        exact ji_ltp (by omega) (by omega) (by omega)
      · exact Int32.lt_of_lt_of_le (jlow6 (by omega)) (ji_lep (a := 0) (by omega) (by omega) (Nat.zero_le _))
    rw [jgd_t hI.2.2.1, if_pos h6]
  | succ t ih =>
    intro k f s m h1 h2 h3 hI
    obtain ⟨f, rfl⟩ := jsucc h3
    by_cases e : k + 6 ≤ Z
    · obtain ⟨m1, s1, a1, a2⟩ := jgo_law (F := F) hF e hZ hI (B := fun m y0 y1 y2 y3 => c_L_law_l18 F f m y0 y1 y2 y3)
      obtain ⟨m', s', b1, b2⟩ := ih (k + 6) f s1 m1 (by omega) (by omega) (by omega) a2
      refine ⟨m', s', ?_, b2⟩
      show c_L_law_l18_b F _ m _ _ _ _ = _
      rw [a1, show Int32.ofNat k + 6 = Int32.ofNat (k + 6) from ji_add k 6]
      exact b1
    · refine ⟨m, s, ?_, hI⟩
      show c_L_law_l18_b F _ m _ _ _ _ = _
      unfold c_L_law_l18_b
      have h6 : (Int32.ofNat (jZ m 2)) - (6 : Int32) < Int32.ofNat k := by
        rw [hI.2.2.2]
        by_cases e : 6 ≤ Z
        · rw [show Int32.ofNat Z - (6 : Int32) = Int32.ofNat (Z - 6) from ji_sub (b := 6) e]
          exact ji_ltp (by omega) (by omega) (by omega)
        · exact Int32.lt_of_lt_of_le (jlow6 (by omega)) (ji_lep (a := 0) (by omega) (by omega) (Nat.zero_le _))
      rw [jgd_t hI.2.2.1, if_pos h6]
/-- what the constructors leave -/
def jStart (F L : Nat) (xs : Nat → Int32) : Prop := ∃ t3 t6 s, c_X9_init F (jnew (jm00 L xs) 41 0 (jnf 9)) 32 = some t3 ∧ jN t3 = 69 ∧ c_X10_init F (jnew t3 42 0 (jnf 10)) 101 = some t6 ∧ jInv s L t6
theorem jlaw_of {F L : Nat} {xs : Nat → Int32} (hF : 5000 < F) (hL : L ≤ 3072) (h : jStart F L xs) : ∃ m', c_L_law F (jm00 L xs) 2 = some (1, m') ∧ jN m' ≤ 600000 ∧ jT m' ≤ 7302249 := by
  obtain ⟨t3, t6, s, a1, a2, a3, a4⟩ := h
  obtain ⟨m', s', b1, b2⟩ := jlaw_l18 (F := F) hF hL 513 0 F s t6 (by omega) (by omega) (by omega) a4
  have b1 : c_L_law_l18 F F t6 2 32 101 (0 : Int32) = _ := b1
  have hw := b2.1.1.1.2.2.2.2.2.1
  have hN := b2.1.2.1
  refine ⟨m', ?_, by omega, by omega⟩
  unfold c_L_law jlet
  show jb (c_X9_init F (jnew (jm00 L xs) 41 0 (jnf 9)) 32) _ = _
  rw [a1, jb_some]
  dsimp only
  rw [a2]
  show jb (c_X10_init F (jnew t3 42 0 (jnf 10)) 101) _ = _
  rw [a3, jb_some]
  show jb2 (c_L_law_l18 F F t6 2 32 101 (0 : Int32)) _ _ = _
  rw [b1]
  rfl
