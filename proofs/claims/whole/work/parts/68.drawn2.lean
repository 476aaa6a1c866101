/-! a draw -/
section DRAWN2
variable {F b : Nat} {D : jD}
theorem q_drawn (hF : 2000 < F) (hD : jDok D) (hq0 : jDq D ≠ 0) {m : jMe} (hJ : jJ D b m) (hg : jI m b 5 = 0) {z : Int32} : ∃ m', c_X2_drawn F m b z = some (jdgo D (jdraw D z).1, m') ∧ jfr (jSdr b) m m' ∧ (∀ j, j ≠ 7 → j ≠ 16 → j ≠ 17 → jI m' b j = jI m b j) ∧ jL m' b = jL m b ∧ jJ D b m' ∧ jI m' b 7 = Int32.ofNat (jdraw D z).2 ∧ (∀ R, (jdraw D z).1 = some R → jsd D (fun x => (jDq D).testBit x) R b m' ∧ jdg D R 4 0 0 < 10 ^ 4) := by
  have hJ0 := hJ
  obtain ⟨hI, hM, hq13, hps, hbo, g, g1, g2, g3⟩ := hJ
  have hgf : g = false := by
    have h := hg
    rw [g1, jbi_0] at h
    exact h
  obtain ⟨-, hsp, hspm, -⟩ := g3 hgf
  have hK := hI.1.2.2.2.2.2.2.2.2.2.2.2.2.2.2.1
  generalize hm1 : jsI m (b + 10) 0 z = m1
  generalize hm2 : jsI m1 b 7 (0 : Int32) = m2
  have hf2 : jfr (jSdr b) m m2 := by
    rw [← hm2, ← hm1]
    exact (jsI_f (S := jSdr b) (Or.inr (Or.inl rfl))).trans (jsI_f (Or.inl rfl))
  have hb2 : ∀ j, j ≠ 7 → jI m2 b j = jI m b j := by
    intro j hj
    rw [← hm2, jsI_e, jupd_n hj, ← hm1, jsI_n (by omega)]
  have hL2 : jL m2 b = jL m b := by rw [← hm2, jL_sI, ← hm1, jL_sI]
  have hJ2 : jJ D b m2 := jJ_of hf2 (hb2 5 (by omega)) (hb2 13 (by omega)) hL2 hJ0
  have h7 : jI m2 b 7 = Int32.ofNat 0 := by
    rw [← hm2, jsI_e, jupd_e]
    rfl
  have hz : jI m2 (b + 10) 0 = z := by rw [← hm2, jsI_n (by omega), ← hm1, jsI_e, jupd_e]
  have hg2 : jI m2 b 5 = 0 := by rw [hb2 5 (by omega)]; exact hg
  have hK1 : jK m1 b = 34 := by rw [← hm1, jK_sI]; exact hI.1.1
  have hst : ∀ y, jb2 (c_X2_drawn_l15 F F m2 b (Int32.ofNat 0)) (fun q => some q) (fun e20 => some ((-1 : Int32), e20)) = y → c_X2_drawn F m b z = y := by
    intro y h
    rw [← h]
    unfold c_X2_drawn
    rw [jgd_t hI.1.1, hI.1.2.2.2.2.2.2.1, jgd_t hK]
    have hbg : c_X0_begin F m (b + 10) z = some m1 := by
      unfold c_X0_begin
      rw [jgd_t hK, hm1]
    rw [hbg, jb_some, jgd_t hK1, hm2]
    rfl
  unfold jdraw
  by_cases h0 : jsp D 4 = 0
  · rw [if_pos h0]
    refine ⟨m2, hst _ ?_, hf2, fun j j1 j2 j3 => hb2 j j1, hL2, hJ2, h7, fun R h => by cases h⟩
    obtain ⟨F', rfl⟩ := jsucc (show 0 < F by omega)
    have hd : c_X2_drawn_l15 (F' + 1) (F' + 1) m2 b (Int32.ofNat 0) = some (.inr m2) := by
      show c_X2_drawn_l15_b (F' + 1) _ m2 _ _ = _
      unfold c_X2_drawn_l15_b
      rw [jl_20, if_neg (ji_len (by omega) (by omega) (by omega)), jgd_t hJ2.1.1.1, hL2, hsp, h0]
      exact if_pos (by decide)
    rw [hd, jb2_r]
    rfl
  · rw [if_neg h0]
    obtain ⟨m', y1, y2, y3, y4, y5, y6⟩ := q_drawn_l15 (F := F) hF hD hq0 (by omega) 20 0 F 0 m2 z (by omega) (by omega) rfl hJ2 hg2 hz h7
    have hf := hf2.trans y2
    have hb : ∀ j, j ≠ 7 → j ≠ 16 → j ≠ 17 → jI m' b j = jI m b j := fun j j1 j2 j3 => by rw [y3 j j1 j2 j3, hb2 j j1]
    refine ⟨m', hst _ ?_, hf, hb, by rw [y4, hL2], jJ_of hf (hb 5 (by omega) (by omega) (by omega)) (hb 13 (by omega) (by omega) (by omega)) (by rw [y4, hL2]) hJ0, y5, y6⟩
    rw [y1]
    cases e : (jdrw D 20 z 0).1 with
    | none => rfl
    | some R => rfl
end DRAWN2
